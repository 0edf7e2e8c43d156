/-! ===== the critical path: the same ===== -/
section VG
variable {σ x w z : bt_X}
/-- a state of the reference that has worked out x's starts -/
def v_Zs (σ x z : bt_X) : Prop := v_Zl σ x z ∧ ∀ i ∈ x.2.2 2, z.1 8 29 i = x.1 2 i 10
theorem v_Zs_now (h : v_Inv σ x) : v_Zs σ x (m_wS σ x) := ⟨fun i k hi => by unfold m_wS m_wk; rw [m_wkL_n (by omega)], (v_now h).2.1⟩
theorem v_mfin (h : v_Inv σ x) (hZ : v_Zs σ x z) {i : Nat} (hi : i ∈ x.2.2 2) : m_fin σ z i = x.1 2 i 11 := by
  obtain ⟨hSo, hS⟩ := v_Sx h
  obtain ⟨q1, q2, q3, q4⟩ := hS i hi
  unfold m_fin
  rw [hZ.2 i hi, q2, (h.2.2.1.2.2.2.1 _ q1).2.1, (v_lnE h.1.1.2.1 q1).1, nI_add, q3]
theorem v_nxt (h : v_Inv σ x) (hZ : v_Zs σ x z) {i : Nat} (hi : i ∈ x.2.2 2) : m_nxt σ z i = b_ahead σ x i := by
  obtain ⟨hSo, hS⟩ := v_Sx h
  obtain ⟨m, hm, him⟩ := hSo.2.1 i hi
  obtain ⟨q1, q2, q3, q4⟩ := v_Zl_row h.1.1.1 h.1.1.2.1 h.1.2.1 h.2.2.2 h.2.2.1 hZ.1 hm him
  obtain ⟨-, -, -, ro, rm, rs, -⟩ := h.2.2.1
  have hop := (hS i hi).1
  have e2 : m_nx2 σ z i = b_ahead2 σ x i := by
    unfold m_nx2 b_ahead2
    rw [q2]
    cases e : x.2.1 2 i 8 with
    | none => rfl
    | some u =>
      have hu := (v_ahead_le h hi (Or.inr e)).1
      have hopu := (hS u hu).1
      show (if m_fin σ z u + m_su σ (m_fm σ u) (m_fm σ i) = z.1 8 29 i then some u else none) = (if x.1 2 u 11 + σ.1 8 (1 + b_fn σ u) (b_fn σ i) = x.1 2 i 10 then some u else none)
      rw [v_mfin h hZ hu, hZ.2 i hi, (ro u hopu).2.2.1, (ro i hop).2.2.1, rs _ _ (h.1.1.2.1 u hopu).2.1.2 (h.1.1.2.1 i hop).2.1.2]
  unfold m_nxt b_ahead
  rw [q3, e2]
  cases e : σ.2.1 2 i 6 with
  | none => rfl
  | some a =>
    have ha := (v_ahead_le h hi (Or.inl e)).1
    show (if m_fin σ z a = z.1 8 29 i then some a else b_ahead2 σ x i) = (if x.1 2 a 11 = x.1 2 i 10 then some a else b_ahead2 σ x i)
    rw [v_mfin h hZ ha, hZ.2 i hi]
theorem v_ahead_some (h : v_Inv σ x) {i a : Nat} (e : b_ahead σ x i = some a) : σ.2.1 2 i 6 = some a ∨ x.2.1 2 i 8 = some a := by
  have g : ∀ b, b_ahead2 σ x i = some b → x.2.1 2 i 8 = some b := fun b hb => by
    unfold b_ahead2 at hb
    cases e8 : x.2.1 2 i 8 with
    | none => rw [e8] at hb; cases hb
    | some u =>
      rw [e8] at hb
      simp only [] at hb
      split at hb
      · cases hb; rfl
      · cases hb
  unfold b_ahead at e
  cases e6 : σ.2.1 2 i 6 with
  | none => rw [e6] at e; exact Or.inr (g a e)
  | some u =>
    rw [e6] at e
    simp only [] at e
    split at e
    · cases e; exact Or.inl rfl
    · exact Or.inr (g a e)
/-- the way back -/
def v_pl (σ x : bt_X) : Nat → Option Nat → List Nat
  | _, none => []
  | 0, some _ => []
  | n + 1, some i => i :: v_pl σ x n (b_ahead σ x i)
theorem v_pl_m (h : v_Inv σ x) (hZ : v_Zs σ x z) : ∀ (n : Nat) (a : Option Nat), (∀ i, a = some i → i ∈ x.2.2 2) → m_pl σ z n a = v_pl σ x n a := by
  intro n
  induction n with
  | zero => intro a _; cases a <;> rfl
  | succ n ih =>
    intro a ha
    cases a with
    | none => rfl
    | some i =>
      have hi := ha i rfl
      unfold m_pl v_pl
      rw [v_nxt h hZ hi, ih _ (fun b hb => (v_ahead_le h hi (v_ahead_some h hb)).1)]
theorem v_pl_b : ∀ (n : Nat) (y : bt_X) (a : Option Nat), y.1 = x.1 → y.2.1 = x.2.1 → (b_pathL σ n y a).2.2 3 = y.2.2 3 ++ v_pl σ x n a := by
  intro n
  induction n with
  | zero => intro y a _ _; cases a <;> (unfold b_pathL v_pl; rw [List.append_nil])
  | succ n ih =>
    intro y a h1 h2
    cases a with
    | none => unfold b_pathL v_pl; rw [List.append_nil]
    | some i =>
      unfold b_pathL v_pl
      have e : b_ahead σ y i = b_ahead σ x i := by unfold b_ahead b_ahead2; rw [h1, h2]
      rw [e, ih _ _ (by rw [bt_lp_1]; exact h1) (by rw [bt_lp_21]; exact h2), bt_lp_at, List.append_assoc]
      rfl
theorem v_trm (h : v_Inv σ x) (hZ : v_Zs σ x z) : ∀ (n : Nat) (a : Option Nat), (∀ i, a = some i → ∃ k : Nat, k < n ∧ (x.2.2 2)[k]? = some i) → m_trm σ z n a := by
  obtain ⟨hSo, -⟩ := v_Sx h
  intro n
  induction n with
  | zero =>
    intro a ha
    cases a with
    | none => trivial
    | some i => obtain ⟨k, hk, -⟩ := ha i rfl; omega
  | succ n ih =>
    intro a ha
    cases a with
    | none => trivial
    | some i =>
      obtain ⟨k, hk, hki⟩ := ha i rfl
      have hi := List.mem_of_getElem? hki
      show m_trm σ z n (m_nxt σ z i)
      rw [v_nxt h hZ hi]
      refine ih _ (fun b hb => ?_)
      obtain ⟨n', q1, q2⟩ := hSo.2.2.1 k i hki b (v_ahead_some h hb)
      exact ⟨n', by omega, q2⟩
/-- it finishes last -/
def v_ls (x : bt_X) (i : Nat) : Prop := i ∈ x.2.2 2 ∧ x.1 2 i 11 = x.1 4 0 5
theorem v_lst (h : v_Inv σ x) (hZ : v_Zs σ x z) : ∀ (n : Nat) (a : Option Nat), n ≤ 32 →
    (∀ r, m_lst σ z (x.1 4 0 5) n a = some r → (v_ls x r ∧ r < n ∧ ∀ q, q < r → ¬ v_ls x q) ∨ (a = some r ∧ ∀ q, q < n → ¬ v_ls x q)) ∧ (m_lst σ z (x.1 4 0 5) n a = none → a = none ∧ ∀ q, q < n → ¬ v_ls x q) := by
  obtain ⟨hSo, hS⟩ := v_Sx h
  have hin : ∀ p, p < 32 → (¬ z.1 8 26 p = 0 ↔ p ∈ x.2.2 2) := fun p hp => by
    constructor
    · intro hq
      refine Classical.byContradiction fun q => hq ?_
      rw [hZ.1 26 p (by omega)]
      exact v_lays_out h.1.1.1 h.2.2.2 h.2.2.1.1 hp (fun m hm him => q (hSo.1 m hm p him))
    · exact fun q => v_isin h hZ.1 q
  intro n
  induction n with
  | zero => intro a _; exact ⟨fun r hr => Or.inr ⟨hr, fun q hq => by omega⟩, fun hr => ⟨hr, fun q hq => by omega⟩⟩
  | succ n ih =>
    intro a hn
    obtain ⟨g1, g2⟩ := ih (if z.1 8 26 n = 0 then a else if m_fin σ z n = x.1 4 0 5 then some n else a) (by omega)
    unfold m_lst
    have lower : (∀ q, q < n → ¬ v_ls x q) → ¬ v_ls x n → ∀ q, q < n + 1 → ¬ v_ls x q := fun h1 h2 q hq => by
      rcases Nat.lt_or_ge q n with c | c
      · exact h1 q c
      · have : q = n := by omega
        subst this
        exact h2
    by_cases c : z.1 8 26 n = 0
    · have hno : ¬ v_ls x n := fun q => (hin n (by omega)).mpr q.1 c
      rw [if_pos c] at g1 g2 ⊢
      refine ⟨fun r hr => ?_, fun hr => ?_⟩
      · rcases g1 r hr with ⟨q1, q2, q3⟩ | ⟨q1, q2⟩
        · exact Or.inl ⟨q1, by omega, q3⟩
        · exact Or.inr ⟨q1, lower q2 hno⟩
      · obtain ⟨q1, q2⟩ := g2 hr
        exact ⟨q1, lower q2 hno⟩
    · have hnL := (hin n (by omega)).mp c
      rw [if_neg c] at g1 g2 ⊢
      rw [v_mfin h hZ hnL] at g1 g2 ⊢
      by_cases d : x.1 2 n 11 = x.1 4 0 5
      · rw [if_pos d] at g1 g2 ⊢
        refine ⟨fun r hr => ?_, fun hr => ?_⟩
        · rcases g1 r hr with ⟨q1, q2, q3⟩ | ⟨q1, q2⟩
          · exact Or.inl ⟨q1, by omega, q3⟩
          · cases q1
            exact Or.inl ⟨⟨hnL, d⟩, by omega, q2⟩
        · exact absurd (g2 hr).1 (by simp)
      · have hno : ¬ v_ls x n := fun q => d q.2
        rw [if_neg d] at g1 g2 ⊢
        refine ⟨fun r hr => ?_, fun hr => ?_⟩
        · rcases g1 r hr with ⟨q1, q2, q3⟩ | ⟨q1, q2⟩
          · exact Or.inl ⟨q1, by omega, q3⟩
          · exact Or.inr ⟨q1, lower q2 hno⟩
        · obtain ⟨q1, q2⟩ := g2 hr
          exact ⟨q1, lower q2 hno⟩
theorem v_lastO : ∀ (k s : Nat), (∀ i, s ≤ i → i < s + k → i ∈ x.2.2 2) →
    (∀ r, b_lastO x (List.range' s k) = some r → v_ls x r ∧ s ≤ r ∧ r < s + k ∧ ∀ q, s ≤ q → q < r → ¬ v_ls x q) ∧ (b_lastO x (List.range' s k) = none → ∀ q, s ≤ q → q < s + k → ¬ v_ls x q) := by
  intro k
  induction k with
  | zero => intro s _; exact ⟨fun r hr => (by cases hr), fun _ q h1 h2 => (by omega)⟩
  | succ k ih =>
    intro s hs
    obtain ⟨g1, g2⟩ := ih (s + 1) (fun i h1 h2 => hs i (by omega) (by omega))
    rw [List.range'_succ]
    unfold b_lastO
    by_cases c : x.1 2 s 11 = x.1 4 0 5
    · rw [if_pos c]
      refine ⟨fun r hr => ?_, fun hr => by cases hr⟩
      cases hr
      exact ⟨⟨hs _ (by omega) (by omega), c⟩, by omega, by omega, fun q h1 h2 => by omega⟩
    · rw [if_neg c]
      refine ⟨fun r hr => ?_, fun hr q h1 h2 => ?_⟩
      · obtain ⟨q1, q2, q3, q4⟩ := g1 r hr
        refine ⟨q1, by omega, by omega, fun q h1 h2 => ?_⟩
        rcases Nat.lt_or_ge s q with e | e
        · exact q4 q (by omega) h2
        · have : q = s := by omega
          subst this
          exact fun z => c z.2
      · rcases Nat.lt_or_ge s q with e | e
        · exact g2 hr q (by omega) (by omega)
        · have : q = s := by omega
          subst this
          exact fun z => c z.2
theorem v_lastJ (h : v_Inv σ x) : ∀ (k a : Nat), a + k = b_nj σ →
    (∀ r, b_lastJ σ x (List.range' a k) = some r → v_ls x r ∧ ∀ q, a ≤ q / 4 → q < r → ¬ v_ls x q) ∧ (b_lastJ σ x (List.range' a k) = none → ∀ q, a ≤ q / 4 → ¬ v_ls x q) := by
  obtain ⟨hSo, hS⟩ := v_Sx h
  intro k
  induction k with
  | zero => intro a ha; exact ⟨fun r hr => (by cases hr), fun _ q h1 h2 => (by have := (hS q h2.1).1.1; omega)⟩
  | succ k ih =>
    intro a ha
    obtain ⟨g1, g2⟩ := ih (a + 1) (by omega)
    obtain ⟨hops, hp4⟩ := h.1.1.1.2.2.2.2 a (by omega)
    rw [List.range'_succ]
    unfold b_lastJ
    by_cases c : σ.1 0 a 3 = 0
    · rw [if_pos c]
      have hno : ∀ q, q / 4 = a → ¬ v_ls x q := fun q hq z => by
        obtain ⟨m, hm, him⟩ := hSo.2.1 q z.1
        have := (h.1.2.2.2.1 q (hS q z.1).1).mp ⟨m, hm, him⟩
        rw [hq, c] at this
        exact absurd this (by decide)
      refine ⟨fun r hr => ?_, fun hr q h1 => ?_⟩
      · obtain ⟨q1, q2⟩ := g1 r hr
        refine ⟨q1, fun q h1 h2 => ?_⟩
        by_cases e : q / 4 = a
        · exact hno q e
        · exact q2 q (by omega) h2
      · by_cases e : q / 4 = a
        · exact hno q e
        · exact g2 hr q (by omega)
    · rw [if_neg c, hops]
      obtain ⟨hp1, hnp⟩ := v_pjl h (show a < b_nj σ by omega) c
      obtain ⟨f1, f2⟩ := v_lastO (x := x) (b_np σ a) (4 * a) (fun i h1 h2 => by
        have := (v_job_pl h (show a < b_nj σ by omega) hp1 (k := i - 4 * a) (by omega)).2
        rw [show 4 * a + (i - 4 * a) = i by omega] at this
        exact this)
      have hrng : ∀ q, q / 4 = a → v_ls x q → q < 4 * a + b_np σ a := fun q hq z => by
        have := (hS q z.1).1.2
        rw [hq] at this
        omega
      cases e : b_lastO x (List.range' (4 * a) (b_np σ a)) with
      | some i =>
        obtain ⟨q1, q2, q3, q4⟩ := f1 i e
        refine ⟨fun r hr => ?_, fun hr => by cases hr⟩
        cases hr
        refine ⟨q1, fun q h1 h2 z => ?_⟩
        exact q4 q (by omega) h2 z
      | none =>
        have hno : ∀ q, q / 4 = a → ¬ v_ls x q := fun q hq z => f2 e q (by omega) (hrng q hq z) z
        refine ⟨fun r hr => ?_, fun hr q h1 => ?_⟩
        · obtain ⟨q1, q2⟩ := g1 r hr
          refine ⟨q1, fun q h1 h2 => ?_⟩
          by_cases d : q / 4 = a
          · exact hno q d
          · exact q2 q (by omega) h2
        · by_cases d : q / 4 = a
          · exact hno q d
          · exact g2 hr q (by omega)
theorem v_last (h : v_Inv σ x) (hZ : v_Zs σ x z) : m_lst σ z (x.1 4 0 5) m_32 none = b_lastJ σ x (σ.2.2 1) ∧ ∀ r, b_lastJ σ x (σ.2.2 1) = some r → r ∈ x.2.2 2 := by
  obtain ⟨hSo, hS⟩ := v_Sx h
  obtain ⟨g1, g2⟩ := v_lst h hZ m_32 none (Nat.le_of_eq m_32_e)
  have ej : σ.2.2 1 = List.range' 0 (b_nj σ) := by rw [h.1.1.1.2.2.1, List.range_eq_range']
  obtain ⟨f1, f2⟩ := v_lastJ h (b_nj σ) 0 (Nat.zero_add _)
  rw [← ej] at f1 f2
  refine ⟨?_, fun r hr => (f1 r hr).1.1⟩
  have h32 : ∀ q, v_ls x q → q < m_32 := fun q hq => by rw [m_32_e]; exact v_op32 h.1.1.1 (hS q hq.1).1
  cases e1 : m_lst σ z (x.1 4 0 5) m_32 none with
  | none =>
    have k1 := (g2 e1).2
    cases e2 : b_lastJ σ x (σ.2.2 1) with
    | none => rfl
    | some r => exact absurd (f1 r e2).1 (k1 r (h32 r (f1 r e2).1))
  | some r =>
    rcases g1 r e1 with ⟨q1, q2, q3⟩ | ⟨q1, -⟩
    · cases e2 : b_lastJ σ x (σ.2.2 1) with
      | none => exact absurd q1 (f2 e2 r (Nat.zero_le _))
      | some r' =>
        obtain ⟨p1, p2⟩ := f1 r' e2
        have : r = r' := by
          rcases Nat.lt_trichotomy r r' with c | c | c
          · exact absurd q1 (p2 r (Nat.zero_le _) c)
          · exact c
          · exact absurd p1 (q3 r' c)
        rw [this]
    · cases q1
theorem v_path (h : v_Inv σ x) : m_plist σ x = (b_path σ x).2.2 3 ∧ m_Trm σ x := by
  obtain ⟨hSo, hS⟩ := v_Sx h
  have hZ := v_Zs_now h
  have es : m_spanOf σ x = x.1 4 0 5 := (v_now h).2.2
  obtain ⟨k1, k2⟩ := v_last h hZ
  have el : m_last σ x = b_lastJ σ x (σ.2.2 1) := by
    unfold m_last
    rw [es]
    exact k1
  refine ⟨?_, ?_⟩
  · unfold m_plist
    rw [el, v_pl_m h hZ m_32 _ k2, m_32_e]
    unfold b_path
    rw [v_pl_b (x := x) 32 (bt_lp x 3 []) _ rfl rfl, bt_lp_at]
    rfl
  · unfold m_Trm
    rw [el]
    refine v_trm h hZ m_32 _ (fun i hi => ?_)
    obtain ⟨k, hk⟩ := v_mem (k2 i hi)
    exact ⟨k, by rw [m_32_e]; have := v_lt hk; have := hSo.2.2.2.2.1; omega, hk⟩
theorem v_pl_cX {x' : bt_X} (hX : v_cX x x') : ∀ (n : Nat) (a : Option Nat), v_pl σ x' n a = v_pl σ x n a := by
  have e : ∀ i, b_ahead σ x' i = b_ahead σ x i := fun i => by
    unfold b_ahead b_ahead2
    rw [hX.1]
    have ex : ∀ i, x'.1 2 i 11 = x.1 2 i 11 ∧ x'.1 2 i 10 = x.1 2 i 10 := fun i => ⟨hX.2.2 2 i 11 (by omega) (by omega), hX.2.2 2 i 10 (by omega) (by omega)⟩
    simp only [ex]
  intro n
  induction n with
  | zero => intro a; cases a <;> rfl
  | succ n ih =>
    intro a
    cases a with
    | none => rfl
    | some i => unfold v_pl; rw [e, ih]
theorem v_lastJ_cX {x' : bt_X} (hX : v_cX x x') : ∀ L : List Nat, b_lastJ σ x' L = b_lastJ σ x L := by
  have e : ∀ os : List Nat, b_lastO x' os = b_lastO x os := by
    intro os
    induction os with
    | nil => rfl
    | cons o os ih =>
      unfold b_lastO
      rw [hX.2.2 2 o 11 (by omega) (by omega), hX.2.2 4 0 5 (by omega) (by omega), ih]
  intro L
  induction L with
  | nil => rfl
  | cons j L ih => unfold b_lastJ; rw [e, ih]
theorem v_path_cX {x' : bt_X} (hX : v_cX x x') : (b_path σ x').2.2 3 = (b_path σ x).2.2 3 := by
  unfold b_path
  rw [v_pl_b (x := x') 32 (bt_lp x' 3 []) _ rfl rfl, v_pl_b (x := x) 32 (bt_lp x 3 []) _ rfl rfl, bt_lp_at, bt_lp_at, v_pl_cX hX, v_lastJ_cX hX]
theorem v_pathX : v_cX x (b_path σ x) ∧ v_rA x (b_path σ x) := by
  obtain ⟨g1, g2, g3, -⟩ := b_path_fr (σ := σ) 32 (bt_lp x 3 []) (b_lastJ σ x (σ.2.2 1))
  exact ⟨⟨g2, fun n hn => (g3 n hn).trans (bt_lp_ne hn), fun c i k _ _ => by show (b_pathL σ 32 (bt_lp x 3 []) (b_lastJ σ x (σ.2.2 1))).1 c i k = _; rw [g1]; rfl⟩, fun c i k _ => by show (b_pathL σ 32 (bt_lp x 3 []) (b_lastJ σ x (σ.2.2 1))).1 c i k = _; rw [g1]; rfl⟩
theorem v_walks2 {s : bt_X} : (m_walks σ s).2 = s.2 := by
  have h : ∀ (l : List Nat) (k : Nat) (y : bt_X), (m_pst l k y).2 = y.2 := by
    intro l
    induction l with
    | nil => intro k y; rfl
    | cons q l ih => intro k y; exact ih _ _
  unfold m_walks
  rw [h]
  exact v_wS_2
theorem v_Inv.walks (h : v_Inv σ x) : v_Inv σ (m_walks σ x) := h.mv ⟨by rw [v_walks2], fun _ _ => by rw [v_walks2], fun c i k hc _ => m_walks_n (by omega)⟩ (fun i k hi => m_walks_n (by omega))
theorem s_crit (h : v_Inv σ x) (hX : v_cX (b_crit σ x).2.2 w) (hr : v_rA (b_crit σ x).2.2 w) : v_Inv (m_crit σ w).2.1 (m_crit σ w).2.2 ∧ z_f (b_crit σ x).1 = .inl (m_crit σ w).1 ∧ m_Trm σ (m_thr w (nI 0)) := by
  obtain ⟨p1, p2⟩ := v_pathX (σ := σ) (x := x)
  have hX2 := p1.trans hX
  have hw := h.go hX2 (p2.trans hr)
  have hw2 := hw.thr (v := nI 0)
  obtain ⟨k1, k2⟩ := v_path hw2
  refine ⟨hw2.walks, ?_, k2⟩
  show Sum.inl (nI ((b_path σ x).2.2 3).length) = Sum.inl (nI (m_plist σ (m_thr w (nI 0))).length)
  rw [k1, v_path_cX (hX2.trans v_cX_thr)]
theorem s_crAt (h : v_Inv σ x) {p : Int32} (hX : v_cX (b_crAt σ x p).2.2 w) (hr : v_rA (b_crAt σ x p).2.2 w) : v_Ok (b_crAt σ x p) z_criticalAt (m_crAt σ w p) ∧ m_Trm σ w := by
  obtain ⟨p1, p2⟩ := v_pathX (σ := σ) (x := x)
  have e22 : (b_crAt σ x p).2.2 = b_path σ x := by unfold b_crAt; split <;> (try split) <;> rfl
  rw [e22] at hX hr
  have hX2 := p1.trans hX
  have hw := h.go hX2 (p2.trans hr)
  obtain ⟨k1, k2⟩ := v_path hw
  refine ⟨?_, k2⟩
  have hlen := m_plist_len (σ := σ) (x := w)
  have el : m_plist σ w = (b_path σ x).2.2 3 := by rw [k1, v_path_cX hX2]
  have hin : ∀ q ∈ (b_path σ x).2.2 3, q ∈ x.2.2 2 := fun q hq => by
    obtain ⟨-, k4⟩ := v_last h (v_Zs_now h)
    unfold b_path at hq
    rw [v_pl_b (x := x) 32 (bt_lp x 3 []) _ rfl rfl, bt_lp_at, List.nil_append] at hq
    have key : ∀ (n : Nat) (a : Option Nat), (∀ i, a = some i → i ∈ x.2.2 2) → ∀ q ∈ v_pl σ x n a, q ∈ x.2.2 2 := by
      intro n
      induction n with
      | zero => intro a _ q hq; cases a <;> exact absurd hq List.not_mem_nil
      | succ n ih =>
        intro a ha q hq
        cases a with
        | none => exact absurd hq List.not_mem_nil
        | some i =>
          rcases List.mem_cons.mp hq with rfl | hq
          · exact ha _ rfl
          · exact ih _ (fun b hb => (v_ahead_le h (ha i rfl) (v_ahead_some h hb)).1) q hq
    exact key 32 _ k4 q hq
  unfold b_crAt m_crAt
  rw [el] at hlen ⊢
  unfold b_ix
  by_cases c : p < 0
  · rw [if_pos c, if_pos c]
    exact ⟨hw.walks.thr, m_thr_at, fun u hu => by cases hu⟩
  · rw [if_neg c, if_neg c]
    by_cases d : p < nI ((b_path σ x).2.2 3).length
    · rw [if_pos d, if_pos d]
      refine ⟨hw.walks.thr, m_thr_at, fun u hu => ?_⟩
      cases hu
      obtain ⟨q1, q2⟩ := b_nn c d (by omega)
      have hg := b_getD (L := (b_path σ x).2.2 3) (show ((b_path σ x).2.2 3).length - 1 - p.toNatClampNeg < ((b_path σ x).2.2 3).length by omega)
      exact (v_code h.1.1.1 h.1.1.2.1 h.1.1.2.2.2.2.1 ((v_Sx h).2 _ (hin _ (List.mem_of_getElem? hg))).1).symm
    · rw [if_neg d, if_neg d]
      exact ⟨hw.walks.thr, m_thr_at, fun u hu => by cases hu⟩
end VG

