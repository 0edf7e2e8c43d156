/-! ===== the reference of the whole claim, as numbers alone: what stands beside the class (nothing of it is in this heap) ===== -/
def z_addMachine (F : Int32 ⊕ String) : Int32 := match F with
  | .inl _ => nI 0
  | .inr E => nI 1
def z_setMagazine (F : Int32 ⊕ String) : Int32 := match F with
  | .inl _ => nI 0
  | .inr E => if E = b_IO then nI 1 else if E = b_IA then nI 2 else nI 3
def z_breakdown (F : Int32 ⊕ String) : Int32 := match F with
  | .inl _ => nI 0
  | .inr E => if E = b_IO then nI 1 else nI 2
def z_repair (F : Int32 ⊕ String) : Int32 := match F with
  | .inl _ => nI 0
  | .inr E => nI 1
def z_addJob (F : Int32 ⊕ String) : Int32 := match F with
  | .inl _ => nI 0
  | .inr E => if E = b_IA then nI 1 else nI 2
def z_addOperation (F : Int32 ⊕ String) : Int32 := match F with
  | .inl _ => nI 0
  | .inr E => if E = b_IO then nI 1 else if E = b_IA then nI 2 else nI 3
def z_setSetup (F : Int32 ⊕ String) : Int32 := match F with
  | .inl _ => nI 0
  | .inr E => if E = b_IO then nI 1 else nI 2
def z_place (F : Int32 ⊕ String) : Int32 := match F with
  | .inl _ => nI 0
  | .inr E => if E = b_IO then nI 1 else nI 2
def z_rush (F : Int32 ⊕ String) : Int32 := match F with
  | .inl _ => nI 0
  | .inr E => if E = b_IO then nI 1 else nI 2
def z_remove (F : Int32 ⊕ String) : Int32 := match F with
  | .inl _ => nI 0
  | .inr E => if E = b_IO then nI 1 else nI 2
def z_swap (F : Int32 ⊕ String) : Int32 := match F with
  | .inl _ => nI 0
  | .inr E => if E = b_IO then nI 1 else nI 2
def z_placed (F : Int32 ⊕ String) : Int32 := match F with
  | .inl _ => nI 0
  | .inr E => nI 1
def z_placedAt (F : Int32 ⊕ String) : Int32 := match F with
  | .inl _ => nI 0
  | .inr E => nI 1
def z_startOf (F : Int32 ⊕ String) : Int32 := match F with
  | .inl _ => nI 0
  | .inr E => if E = b_IO then nI 1 else nI 2
def z_startByRounds (F : Int32 ⊕ String) : Int32 := match F with
  | .inl _ => nI 0
  | .inr E => if E = b_IO then nI 1 else nI 2
def z_lateness (F : Int32 ⊕ String) : Int32 := match F with
  | .inl _ => nI 0
  | .inr E => if E = b_IO then nI 1 else nI 2
def z_slack (F : Int32 ⊕ String) : Int32 := match F with
  | .inl _ => nI 0
  | .inr E => if E = b_IO then nI 1 else nI 2
def z_criticalAt (F : Int32 ⊕ String) : Int32 := match F with
  | .inl _ => nI 0
  | .inr E => nI 1
def z_setups (F : Int32 ⊕ String) : Int32 := match F with
  | .inl _ => nI 0
  | .inr E => nI 1
def z_loads (F : Int32 ⊕ String) : Int32 := match F with
  | .inl _ => nI 0
  | .inr E => nI 1
def m_J (α : bt_A) : Prop := bt_V α 6 0 ∧ ∀ n : Nat, ((12 ≤ n ∧ n ≤ 16) ∨ (18 ≤ n ∧ n ≤ 30) ∨ (32 ≤ n ∧ n ≤ 34)) → bt_V α 8 n ∧ bt_at α n = bt_arl n
theorem m_J.v6 {α : bt_A} (J : m_J α) : bt_V α 6 0 := J.1
theorem m_J.a12 {α : bt_A} (J : m_J α) : bt_V α 8 12 ∧ bt_at α 12 = (0, 4) := J.2 12 (by decide)
theorem m_J.a13 {α : bt_A} (J : m_J α) : bt_V α 8 13 ∧ bt_at α 13 = (0, 4) := J.2 13 (by decide)
theorem m_J.a14 {α : bt_A} (J : m_J α) : bt_V α 8 14 ∧ bt_at α 14 = (0, 4) := J.2 14 (by decide)
theorem m_J.a15 {α : bt_A} (J : m_J α) : bt_V α 8 15 ∧ bt_at α 15 = (0, 4) := J.2 15 (by decide)
theorem m_J.a16 {α : bt_A} (J : m_J α) : bt_V α 8 16 ∧ bt_at α 16 = (0, 128) := J.2 16 (by decide)
theorem m_J.a18 {α : bt_A} (J : m_J α) : bt_V α 8 18 ∧ bt_at α 18 = (0, 8) := J.2 18 (by decide)
theorem m_J.a19 {α : bt_A} (J : m_J α) : bt_V α 8 19 ∧ bt_at α 19 = (0, 8) := J.2 19 (by decide)
theorem m_J.a20 {α : bt_A} (J : m_J α) : bt_V α 8 20 ∧ bt_at α 20 = (1, 8) := J.2 20 (by decide)
theorem m_J.a21 {α : bt_A} (J : m_J α) : bt_V α 8 21 ∧ bt_at α 21 = (0, 32) := J.2 21 (by decide)
theorem m_J.a22 {α : bt_A} (J : m_J α) : bt_V α 8 22 ∧ bt_at α 22 = (0, 32) := J.2 22 (by decide)
theorem m_J.a23 {α : bt_A} (J : m_J α) : bt_V α 8 23 ∧ bt_at α 23 = (0, 32) := J.2 23 (by decide)
theorem m_J.a24 {α : bt_A} (J : m_J α) : bt_V α 8 24 ∧ bt_at α 24 = (0, 32) := J.2 24 (by decide)
theorem m_J.a25 {α : bt_A} (J : m_J α) : bt_V α 8 25 ∧ bt_at α 25 = (0, 16) := J.2 25 (by decide)
theorem m_J.a26 {α : bt_A} (J : m_J α) : bt_V α 8 26 ∧ bt_at α 26 = (1, 32) := J.2 26 (by decide)
theorem m_J.a27 {α : bt_A} (J : m_J α) : bt_V α 8 27 ∧ bt_at α 27 = (0, 32) := J.2 27 (by decide)
theorem m_J.a28 {α : bt_A} (J : m_J α) : bt_V α 8 28 ∧ bt_at α 28 = (0, 32) := J.2 28 (by decide)
theorem m_J.a29 {α : bt_A} (J : m_J α) : bt_V α 8 29 ∧ bt_at α 29 = (0, 32) := J.2 29 (by decide)
theorem m_J.a30 {α : bt_A} (J : m_J α) : bt_V α 8 30 ∧ bt_at α 30 = (0, 32) := J.2 30 (by decide)
theorem m_J.a32 {α : bt_A} (J : m_J α) : bt_V α 8 32 ∧ bt_at α 32 = (0, 32) := J.2 32 (by decide)
theorem m_J.a33 {α : bt_A} (J : m_J α) : bt_V α 8 33 ∧ bt_at α 33 = (0, 256) := J.2 33 (by decide)
theorem m_J.a34 {α : bt_A} (J : m_J α) : bt_V α 8 34 ∧ bt_at α 34 = (0, 256) := J.2 34 (by decide)
/-- numbers that nothing works out -/
noncomputable def m_32 : Nat := (Classical.choice (⟨⟨32, rfl⟩⟩ : Nonempty {n : Nat // n = 32})).1
noncomputable def m_33 : Nat := (Classical.choice (⟨⟨33, rfl⟩⟩ : Nonempty {n : Nat // n = 33})).1
noncomputable def m_8 : Nat := (Classical.choice (⟨⟨8, rfl⟩⟩ : Nonempty {n : Nat // n = 8})).1
theorem m_32_e : m_32 = 32 := (Classical.choice (⟨⟨32, rfl⟩⟩ : Nonempty {n : Nat // n = 32})).2
theorem m_33_e : m_33 = 33 := (Classical.choice (⟨⟨33, rfl⟩⟩ : Nonempty {n : Nat // n = 33})).2
theorem m_8_e : m_8 = 8 := (Classical.choice (⟨⟨8, rfl⟩⟩ : Nonempty {n : Nat // n = 8})).2
abbrev nN (v : Int32) : Nat := v.toNatClampNeg
def m_w (B : Nat) (v : Int32) : Prop := v = nI (nN v) ∧ nN v < B
theorem m_wi {B n : Nat} (h : n < B) (hB : n < 2 ^ 31) : m_w B (nI n) := by
  have e : nN (nI n) = n := nI_clamp hB
  exact ⟨by rw [e], by rw [e]; exact h⟩
theorem m_w.e {B : Nat} {v : Int32} (h : m_w B v) : v = nI (nN v) := h.1
theorem m_w.l {B : Nat} {v : Int32} (h : m_w B v) : nN v < B := h.2
def m_wo (v : Int32) : Prop := v = (-1 : Int32) ∨ m_w 32 v
/-- what a number says of an operation: none, or which -/
def m_opt (v : Int32) : Option Nat := if v = (-1 : Int32) then none else some (nN v)
theorem m_nI_ne {q : Nat} (h : q < 2 ^ 31) : ¬ nI q = (-1 : Int32) := fun z => nI_pos h (by rw [z]; decide)
/-- machines and families of operations -/
def m_K (σ : bt_X) : Prop := ∀ p : Nat, p < 32 → m_w 4 (σ.1 8 21 p) ∧ m_w 4 (σ.1 8 23 p)
/-- links -/
def m_L (x : bt_X) : Prop := ∀ p : Nat, p < 32 → m_wo (x.1 8 27 p) ∧ m_wo (x.1 8 28 p)
/-- rows -/
def m_Rw (x : bt_X) : Prop := ∀ m : Nat, m < 4 → m_w 33 (x.1 8 15 m) ∧ ∀ k : Nat, k < nN (x.1 8 15 m) → m_w 32 (x.1 8 16 (32 * m + k))
def m_nm (σ : bt_X) : Nat := nN (σ.1 6 0 1)
def m_nj (σ : bt_X) : Nat := nN (σ.1 6 0 7)
/-- how many machines and jobs there are, and how many operations each job has -/
def m_Nn (σ : bt_X) : Prop := m_w 5 (σ.1 6 0 1) ∧ m_w 9 (σ.1 6 0 7) ∧ ∀ j : Nat, j < 8 → m_w 5 (σ.1 8 19 j)
def m_mc (σ : bt_X) (p : Nat) : Nat := nN (σ.1 8 21 p)
def m_fm (σ : bt_X) (p : Nat) : Nat := nN (σ.1 8 23 p)
def m_su (σ : bt_X) (f g : Nat) : Int32 := σ.1 8 25 (4 * f + g)
def m_fin (σ x : bt_X) (p : Nat) : Int32 := x.1 8 29 p + σ.1 8 22 p
def m_in (v a b : Int32) : Int32 := if v < a then nI 0 else if b < v then nI 0 else nI 1
def m_thr (x : bt_X) (v : Int32) : bt_X := bt_gs x 6 0 0 v
def m_code (p : Nat) : Int32 := nI (10 * (p / 4) + p % 4)
def m_cnt (s : Int32) : Nat → Nat → Int32 → Int32
  | 0, _, n => n
  | r + 1, k, n => m_cnt s r (k + 1) (n + (s >>> (nI k &&& 31) &&& nI 1))
noncomputable def m_count (s : Int32) : Int32 := m_cnt s m_8 0 (nI 0)
def m_z1 (x : bt_X) (p : Nat) : bt_X := bt_gs (bt_gs (bt_gs (bt_gs x 8 26 p (nI 0)) 8 27 p (-1 : Int32)) 8 28 p (-1 : Int32)) 8 29 p (nI 0)
def m_z : Nat → Nat → bt_X → bt_X
  | 0, _, x => x
  | n + 1, p, x => m_z n (p + 1) (m_z1 x p)
/-- one operation's links: the one at place k of machine m, of r -/
def m_lk (x : bt_X) (m k r q : Nat) : bt_X := bt_gs (bt_gs (bt_gs x 8 26 q (nI 1)) 8 27 q (if nI k = 0 then (-1 : Int32) else x.1 8 16 (32 * m + k - 1))) 8 28 q (if nI k = nI r - nI 1 then (-1 : Int32) else x.1 8 16 (32 * m + k + 1))
def m_lkR (m r : Nat) : Nat → Nat → bt_X → bt_X
  | 0, _, x => x
  | n + 1, k, x => m_lkR m r n (k + 1) (m_lk x m k r (nN (x.1 8 16 (32 * m + k))))
def m_lkM : Nat → Nat → bt_X → bt_X
  | 0, _, x => x
  | n + 1, m, x => m_lkM n (m + 1) (m_lkR m (nN (x.1 8 15 m)) (nN (x.1 8 15 m)) 0 x)
noncomputable def m_lays (σ x : bt_X) : bt_X := m_lkM (m_nm σ) 0 (m_z m_32 0 x)
theorem m_z_n {c i k : Nat} (h : ¬ (c = 8 ∧ 26 ≤ i ∧ i ≤ 29)) : ∀ (n p : Nat) (x : bt_X), (m_z n p x).1 c i k = x.1 c i k := by
  intro n
  induction n with
  | zero => intro p x; rfl
  | succ n ih =>
    intro p x
    unfold m_z
    rw [ih]
    unfold m_z1
    rw [b_gs_ne (by omega), b_gs_ne (by omega), b_gs_ne (by omega), b_gs_ne (by omega)]
theorem m_lkR_n {m r c i k' : Nat} (h : ¬ (c = 8 ∧ 26 ≤ i ∧ i ≤ 28)) : ∀ (n k : Nat) (x : bt_X), (m_lkR m r n k x).1 c i k' = x.1 c i k' := by
  intro n
  induction n with
  | zero => intro p x; rfl
  | succ n ih =>
    intro p x
    unfold m_lkR
    rw [ih]
    unfold m_lk
    rw [b_gs_ne (by omega), b_gs_ne (by omega), b_gs_ne (by omega)]
theorem m_lkM_n {c i k' : Nat} (h : ¬ (c = 8 ∧ 26 ≤ i ∧ i ≤ 28)) : ∀ (n m : Nat) (x : bt_X), (m_lkM n m x).1 c i k' = x.1 c i k' := by
  intro n
  induction n with
  | zero => intro p x; rfl
  | succ n ih =>
    intro p x
    unfold m_lkM
    rw [ih, m_lkR_n h]
theorem m_lays_n {σ x : bt_X} {c i k : Nat} (h : ¬ (c = 8 ∧ 26 ≤ i ∧ i ≤ 29)) : (m_lays σ x).1 c i k = x.1 c i k := by
  unfold m_lays
  rw [m_lkM_n (by omega), m_z_n h]
theorem m_Rw.ext {x y : bt_X} (h : m_Rw x) (e : ∀ i k, i = 15 ∨ i = 16 → y.1 8 i k = x.1 8 i k) : m_Rw y := by
  intro m hm
  obtain ⟨h1, h2⟩ := h m hm
  rw [e 15 m (Or.inl rfl)]
  exact ⟨h1, fun k hk => by rw [e 16 _ (Or.inr rfl)]; exact h2 k hk⟩
theorem m_L.z : ∀ (n q : Nat) (x : bt_X), n + q = 32 → (∀ p, p < q → m_wo (x.1 8 27 p) ∧ m_wo (x.1 8 28 p)) → m_L (m_z n q x) := by
  intro n
  induction n with
  | zero => intro q x hq h p hp; exact h p (by omega)
  | succ n ih =>
    intro q x hq h
    unfold m_z
    refine ih (q + 1) _ (by omega) (fun p hp => ?_)
    unfold m_z1
    by_cases e : p = q
    · subst e
      refine ⟨Or.inl ?_, Or.inl ?_⟩
      · rw [b_gs_ne (by omega), b_gs_ne (by omega), b_gs_at]
      · rw [b_gs_ne (by omega), b_gs_at]
    · rw [b_gs_ne (by omega), b_gs_ne (by omega), b_gs_ne (by omega), b_gs_ne (by omega), b_gs_ne (by omega), b_gs_ne (by omega), b_gs_ne (by omega), b_gs_ne (by omega)]
      exact h p (by omega)
theorem m_L.lk {x : bt_X} (h : m_L x) (hR : m_Rw x) {m k r q : Nat} (hm : m < 4) (hr : r = nN (x.1 8 15 m)) (hk : k < r) : m_L (m_lk x m k r q) := by
  subst hr
  have hrl := (hR m hm).1.l
  intro p hp
  obtain ⟨h1, h2⟩ := h p hp
  unfold m_lk
  refine ⟨?_, ?_⟩
  · rw [b_gs_ne (by omega)]
    by_cases e : p = q
    · subst e
      rw [b_gs_at]
      split
      · exact Or.inl rfl
      · rename_i c
        have hk0 : k ≠ 0 := fun z => c (by rw [z]; rfl)
        exact Or.inr (by rw [show 32 * m + k - 1 = 32 * m + (k - 1) by omega]; exact (hR m hm).2 (k - 1) (by omega))
    · rw [b_gs_ne (by omega), b_gs_ne (by omega)]
      exact h1
  · by_cases e : p = q
    · subst e
      rw [b_gs_at]
      split
      · exact Or.inl rfl
      · rename_i c
        have hk0 : k + 1 < nN (x.1 8 15 m) := by
          refine Decidable.byContradiction fun z => c ?_
          rw [pk_sub (by omega)]
          congr 1
          omega
        exact Or.inr ((hR m hm).2 (k + 1) hk0)
    · rw [b_gs_ne (by omega), b_gs_ne (by omega), b_gs_ne (by omega)]
      exact h2
theorem m_L.lkR {m r : Nat} (hm : m < 4) : ∀ (n k : Nat) (x : bt_X), n + k = r → r = nN (x.1 8 15 m) → m_Rw x → m_L x → m_L (m_lkR m r n k x) := by
  intro n
  induction n with
  | zero => intro k x _ _ _ hL; exact hL
  | succ n ih =>
    intro k x hk hr hR hL
    unfold m_lkR
    refine ih (k + 1) _ (by omega) ?_ (hR.ext (fun i k' hi => by unfold m_lk; rw [b_gs_ne (by omega), b_gs_ne (by omega), b_gs_ne (by omega)])) (hL.lk hR hm hr (by omega))
    unfold m_lk
    rw [b_gs_ne (by omega), b_gs_ne (by omega), b_gs_ne (by omega)]
    exact hr
theorem m_L.lkM : ∀ (n m : Nat) (x : bt_X), n + m < 5 → m_Rw x → m_L x → m_L (m_lkM n m x) := by
  intro n
  induction n with
  | zero => intro m x _ _ hL; exact hL
  | succ n ih =>
    intro m x hm hR hL
    unfold m_lkM
    exact ih (m + 1) _ (by omega) (hR.ext (fun i k hi => m_lkR_n (by omega) _ _ _)) (m_L.lkR (by omega) _ _ _ rfl rfl hR hL)
def m_bef (x : bt_X) (p : Nat) : Option Nat := if p % 4 = 0 then none else if x.1 8 26 (p - 1) = 0 then none else some (p - 1)
def m_aft (x : bt_X) (p : Nat) : Option Nat := if (p + 1) % 4 = 0 then none else if x.1 8 26 (p + 1) = 0 then none else some (p + 1)
def m_rdy1 (σ x : bt_X) (p : Nat) : Int32 := match m_bef x p with
  | none => nI 0
  | some q => m_fin σ x q
def m_free (σ x : bt_X) (p : Nat) : Int32 := match m_opt (x.1 8 27 p) with
  | none => m_su σ 0 (m_fm σ p)
  | some q => m_fin σ x q + m_su σ (m_fm σ q) (m_fm σ p)
def m_wt3 (σ : bt_X) (p : Nat) (r : Int32) : Int32 := if σ.1 8 14 (m_mc σ p) ≤ r then r else if r + σ.1 8 22 p ≤ σ.1 8 13 (m_mc σ p) then r else σ.1 8 14 (m_mc σ p)
def m_wt2 (σ x : bt_X) (p : Nat) (a : Int32) : Int32 := m_wt3 σ p (if m_free σ x p ≤ a then a else m_free σ x p)
def m_wt (σ x : bt_X) (p : Nat) : Int32 := m_wt2 σ x p (m_rdy1 σ x p)
def m_its (σ x : bt_X) (p : Nat) : Int32 := if x.1 8 26 p = 0 then nI 0 else m_wt σ x p
def m_chg (ch v w : Int32) : Int32 := if ch = 0 then (if v = w then nI 0 else nI 1) else nI 1
theorem m_chg_b {ch v w : Int32} (h : ch = 0) (e : v = w) : m_chg ch v w = nI 0 := (if_pos h).trans (if_pos e)
/-- one round over all operations -/
def m_rd (σ : bt_X) : Nat → Nat → Int32 → bt_X → Int32 × bt_X
  | 0, _, ch, x => (ch, x)
  | n + 1, p, ch, x => m_rd σ n (p + 1) (m_chg ch (m_its σ x p) (x.1 8 29 p)) (bt_gs x 8 29 p (m_its σ x p))
noncomputable def m_wkL (σ : bt_X) : Nat → Int32 → bt_X → Int32 × bt_X
  | 0, ch, x => (ch, x)
  | n + 1, ch, x => if ch = 0 then (ch, x) else m_wkL σ n (m_rd σ m_32 0 (nI 0) x).1 (m_rd σ m_32 0 (nI 0) x).2
noncomputable def m_wk (σ x : bt_X) : Int32 × bt_X := m_wkL σ m_33 (nI 1) (m_lays σ x)
/-- no way round? -/
noncomputable def m_wOk (σ x : bt_X) : Int32 := if (m_wk σ x).1 = 0 then nI 1 else nI 0
/-- the state behind it -/
noncomputable def m_wS (σ x : bt_X) : bt_X := (m_wk σ x).2
theorem m_L.ext {x y : bt_X} (h : m_L x) (e : ∀ i k, i = 27 ∨ i = 28 → y.1 8 i k = x.1 8 i k) : m_L y := by
  intro p hp
  obtain ⟨h1, h2⟩ := h p hp
  rw [e 27 p (Or.inl rfl), e 28 p (Or.inr rfl)]
  exact ⟨h1, h2⟩
theorem m_rd_n {σ : bt_X} {c i k : Nat} (h : ¬ (c = 8 ∧ i = 29)) : ∀ (n p : Nat) (ch : Int32) (x : bt_X), (m_rd σ n p ch x).2.1 c i k = x.1 c i k := by
  intro n
  induction n with
  | zero => intro p ch x; rfl
  | succ n ih =>
    intro p ch x
    unfold m_rd
    rw [ih, b_gs_ne (by omega)]
theorem m_wkL_n {σ : bt_X} {c i k : Nat} (h : ¬ (c = 8 ∧ i = 29)) : ∀ (n : Nat) (ch : Int32) (x : bt_X), (m_wkL σ n ch x).2.1 c i k = x.1 c i k := by
  intro n
  induction n with
  | zero => intro ch x; rfl
  | succ n ih =>
    intro ch x
    unfold m_wkL
    split
    · rfl
    · rw [ih, m_rd_n h]
theorem m_works_n {σ x : bt_X} {c i k : Nat} (h : ¬ (c = 8 ∧ 26 ≤ i ∧ i ≤ 29)) : (m_wS σ x).1 c i k = x.1 c i k := by
  unfold m_wS m_wk
  rw [m_wkL_n (by omega), m_lays_n h]
def m_spn (σ x : bt_X) : Nat → Nat → Int32 → Int32
  | 0, _, s => s
  | n + 1, p, s => m_spn σ x n (p + 1) (if x.1 8 26 p = 0 then s else if m_fin σ x p ≤ s then s else m_fin σ x p)
noncomputable def m_span (σ x : bt_X) : Int32 := m_spn σ x m_32 0 (nI 0)
noncomputable def m_spanOf (σ x : bt_X) : Int32 := m_span σ (m_wS σ x)
def m_ls1 (x : bt_X) (p : Nat) (s : Int32) : Int32 := match m_aft x p with
  | none => s
  | some q => if s ≤ x.1 8 30 q then s else x.1 8 30 q
def m_oth (σ x : bt_X) (p q : Nat) : Int32 := x.1 8 30 q - m_su σ (m_fm σ p) (m_fm σ q)
def m_ls2 (σ x : bt_X) (p : Nat) (s : Int32) : Int32 := match m_opt (x.1 8 28 p) with
  | none => s
  | some q => if s ≤ m_oth σ x p q then s else m_oth σ x p q
def m_ls3 (σ : bt_X) (p : Nat) (t : Int32) : Int32 := if σ.1 8 14 (m_mc σ p) ≤ t then t else if t + σ.1 8 22 p ≤ σ.1 8 13 (m_mc σ p) then t else σ.1 8 13 (m_mc σ p) - σ.1 8 22 p
def m_las (σ x : bt_X) (p : Nat) (s : Int32) : Int32 := m_ls3 σ p (m_ls2 σ x p (m_ls1 x p s) - σ.1 8 22 p)
def m_wbz : Nat → Nat → bt_X → bt_X
  | 0, _, x => x
  | n + 1, p, x => m_wbz n (p + 1) (bt_gs x 8 30 p (1000000 : Int32))
def m_wb1 (σ : bt_X) (s : Int32) : Nat → Nat → bt_X → bt_X
  | 0, _, x => x
  | n + 1, p, x => m_wb1 σ s n (p + 1) (bt_gs x 8 30 p (if x.1 8 26 p = 0 then (1000000 : Int32) else m_las σ x p s))
noncomputable def m_wbr (σ : bt_X) (s : Int32) : Nat → bt_X → bt_X
  | 0, x => x
  | n + 1, x => m_wbr σ s n (m_wb1 σ s m_32 0 x)
noncomputable def m_back (σ x : bt_X) : bt_X := m_wbr σ (m_spanOf σ x) m_33 (m_wbz m_32 0 (m_wS σ x))
theorem m_wbz_n {c i k : Nat} (h : ¬ (c = 8 ∧ i = 30)) : ∀ (n p : Nat) (x : bt_X), (m_wbz n p x).1 c i k = x.1 c i k := by
  intro n
  induction n with
  | zero => intro p x; rfl
  | succ n ih =>
    intro p x
    unfold m_wbz
    rw [ih, b_gs_ne (by omega)]
theorem m_wb1_n {σ : bt_X} {s : Int32} {c i k : Nat} (h : ¬ (c = 8 ∧ i = 30)) : ∀ (n p : Nat) (x : bt_X), (m_wb1 σ s n p x).1 c i k = x.1 c i k := by
  intro n
  induction n with
  | zero => intro p x; rfl
  | succ n ih =>
    intro p x
    unfold m_wb1
    rw [ih, b_gs_ne (by omega)]
theorem m_wbr_n {σ : bt_X} {s : Int32} {c i k : Nat} (h : ¬ (c = 8 ∧ i = 30)) : ∀ (n : Nat) (x : bt_X), (m_wbr σ s n x).1 c i k = x.1 c i k := by
  intro n
  induction n with
  | zero => intro x; rfl
  | succ n ih =>
    intro x
    unfold m_wbr
    rw [ih, m_wb1_n h]
theorem m_back_n {σ x : bt_X} {c i k : Nat} (h : ¬ (c = 8 ∧ 26 ≤ i ∧ i ≤ 30)) : (m_back σ x).1 c i k = x.1 c i k := by
  unfold m_back
  rw [m_wbr_n (by omega), m_wbz_n (by omega), m_works_n (by omega)]
def m_lst (σ x : bt_X) (s : Int32) : Nat → Option Nat → Option Nat
  | 0, i => i
  | n + 1, i => m_lst σ x s n (if x.1 8 26 n = 0 then i else if m_fin σ x n = s then some n else i)
def m_nx2 (σ x : bt_X) (q : Nat) : Option Nat := match m_opt (x.1 8 27 q) with
  | none => none
  | some u => if m_fin σ x u + m_su σ (m_fm σ u) (m_fm σ q) = x.1 8 29 q then some u else none
/-- what one goes back to -/
def m_nxt (σ x : bt_X) (q : Nat) : Option Nat := match m_bef x q with
  | none => m_nx2 σ x q
  | some b => if m_fin σ x b = x.1 8 29 q then some b else m_nx2 σ x q
def m_pl (σ x : bt_X) : Nat → Option Nat → List Nat
  | _, none => []
  | 0, some _ => []
  | n + 1, some q => q :: m_pl σ x n (m_nxt σ x q)
/-- the way back ends in so many steps -/
def m_trm (σ x : bt_X) : Nat → Option Nat → Prop
  | _, none => True
  | 0, some _ => False
  | n + 1, some q => m_trm σ x n (m_nxt σ x q)
def m_pst : List Nat → Nat → bt_X → bt_X
  | [], _, x => x
  | q :: l, k, x => m_pst l (k + 1) (bt_gs (bt_gs x 8 32 k (nI q)) 6 0 21 (nI (k + 1)))
def m_same (x y : bt_X) : Prop := ∀ i k : Nat, 26 ≤ i ∧ i ≤ 29 → x.1 8 i k = y.1 8 i k
theorem m_same.bef {x y : bt_X} (h : m_same x y) {q : Nat} : m_bef x q = m_bef y q := by unfold m_bef; rw [h 26 _ (by omega)]
theorem m_same.fin {x y : bt_X} (h : m_same x y) {σ : bt_X} {q : Nat} : m_fin σ x q = m_fin σ y q := by unfold m_fin; rw [h 29 _ (by omega)]
noncomputable def m_last (σ x : bt_X) : Option Nat := m_lst σ (m_wS σ x) (m_spanOf σ x) m_32 none
noncomputable def m_plist (σ x : bt_X) : List Nat := m_pl σ (m_wS σ x) m_32 (m_last σ x)
noncomputable def m_walks (σ x : bt_X) : bt_X := m_pst (m_plist σ x) 0 (bt_gs (m_wS σ x) 6 0 21 (nI 0))
def m_Trm (σ x : bt_X) : Prop := m_trm σ (m_wS σ x) m_32 (m_last σ x)
theorem m_pst_n {c i k : Nat} (h : ¬ (c = 8 ∧ i = 32) ∧ ¬ (c = 6 ∧ k = 21)) : ∀ (l : List Nat) (k' : Nat) (x : bt_X), (m_pst l k' x).1 c i k = x.1 c i k := by
  intro l
  induction l with
  | nil => intro k' x; rfl
  | cons q l ih =>
    intro k' x
    unfold m_pst
    rw [ih, b_gs_ne (by omega), b_gs_ne (by omega)]
theorem m_walks_n {σ x : bt_X} {c i k : Nat} (h : ¬ (c = 8 ∧ ((26 ≤ i ∧ i ≤ 29) ∨ i = 32)) ∧ ¬ (c = 6 ∧ k = 21)) : (m_walks σ x).1 c i k = x.1 c i k := by
  unfold m_walks
  rw [m_pst_n (by omega), b_gs_ne (by omega), m_works_n (by omega)]
def m_ro (x : bt_X) (m k : Nat) : Nat := nN (x.1 8 16 (32 * m + k))
def m_rn (x : bt_X) (m : Nat) : Nat := nN (x.1 8 15 m)
def m_sml (σ x : bt_X) (m : Nat) : Nat → Nat → Nat → Int32 → Int32
  | 0, _, _, s => s
  | n + 1, k, f, s => m_sml σ x m n (k + 1) (m_fm σ (m_ro x m k)) (s + m_su σ f (m_fm σ (m_ro x m k)))
def m_setups (σ x : bt_X) (a : Int32) : Int32 × bt_X := match b_ix (m_nm σ) a with
  | none => (nI 0, m_thr x (nI 1))
  | some m => (m_sml σ x m (m_rn x m) 0 0 (nI 0), m_thr x (nI 0))
theorem m_ix_e {n : Nat} {a : Int32} {j : Nat} (hn : n < 2 ^ 31) (h : b_ix n a = some j) : a = nI j ∧ j < n := ⟨(b_ix_s hn h).1, (b_ix_s hn h).2.1⟩
theorem m_Rw.thr {x : bt_X} (h : m_Rw x) {v : Int32} : m_Rw (m_thr x v) := h.ext (fun i k _ => by unfold m_thr; rw [b_gs_ne (by omega)])
theorem m_thr_n {x : bt_X} {v : Int32} {c i k : Nat} (h : ¬ (c = 6 ∧ k = 0)) : (m_thr x v).1 c i k = x.1 c i k := by unfold m_thr; rw [b_gs_ne (by omega)]
theorem m_thr_at {x : bt_X} {v : Int32} : (m_thr x v).1 6 0 0 = v := b_gs_at
/-- tools are sets -/
def m_T (σ : bt_X) : Prop := ∀ p : Nat, p < 32 → m_w 256 (σ.1 8 24 p)
abbrev m_Rt : Type := Int32 × bt_X × bt_X
theorem m_Rw.gs {x : bt_X} (h : m_Rw x) {c i k : Nat} {v : Int32} (hc : c ≠ 8) : m_Rw (bt_gs x c i k v) := h.ext (fun i' k' _ => b_gs_ne (by omega))
def m_np (σ : bt_X) (j : Nat) : Nat := nN (σ.1 8 19 j)
def m_addM (σ x : bt_X) : m_Rt := if m_nm σ = 4 then (nI 0, σ, m_thr x (nI 1)) else (nI (m_nm σ), bt_gs (bt_gs σ 8 12 (m_nm σ) (nI 4)) 6 0 1 (nI (m_nm σ + 1)), m_thr x (nI 0))
def m_one (σ : bt_X) (p : Nat) : Int32 := if nI (m_nj σ) ≤ nI (p / 4) then nI 0 else if nI (m_np σ (p / 4)) ≤ nI (p % 4) then nI 0 else nI 1
noncomputable def m_sv (σ : bt_X) (m : Nat) (c : Int32) (p : Nat) (v t : Int32) : Int32 := if v = 0 then t else if σ.1 8 21 p = nI m then (if m_count (σ.1 8 24 p) ≤ c then t else nI 3) else t
noncomputable def m_sml2 (σ : bt_X) (m : Nat) (c : Int32) : Nat → Nat → bt_X → bt_X
  | 0, _, x => x
  | n + 1, p, x => m_sml2 σ m c n (p + 1) (m_thr x (m_sv σ m c p (m_one σ p) (x.1 6 0 0)))
noncomputable def m_smx (σ x : bt_X) (m : Nat) (c : Int32) : bt_X := m_sml2 σ m c m_32 0 (m_thr x (nI 0))
noncomputable def m_setMag (σ x : bt_X) (a c : Int32) : m_Rt := match b_ix (m_nm σ) a with
  | none => (nI 0, σ, m_thr x (nI 1))
  | some m => if m_in c (nI 1) (nI 8) = 0 then (nI 0, σ, m_thr x (nI 2)) else
      if (m_smx σ x m c).1 6 0 0 ≤ 0 then (σ.1 8 12 m, bt_gs σ 8 12 m c, m_smx σ x m c) else (nI 0, σ, m_smx σ x m c)
theorem m_sml2_n {σ : bt_X} {m : Nat} {c' : Int32} {c i k : Nat} (h : ¬ (c = 6 ∧ k = 0)) : ∀ (n p : Nat) (x : bt_X), (m_sml2 σ m c' n p x).1 c i k = x.1 c i k := by
  intro n
  induction n with
  | zero => intro p x; rfl
  | succ n ih =>
    intro p x
    unfold m_sml2
    rw [ih, m_thr_n h]
theorem m_smx_n {σ x : bt_X} {m : Nat} {c' : Int32} {c i k : Nat} (h : ¬ (c = 6 ∧ k = 0)) : (m_smx σ x m c').1 c i k = x.1 c i k := by
  unfold m_smx
  rw [m_sml2_n h, m_thr_n h]
theorem m_K.gs {σ : bt_X} (h : m_K σ) {c i k : Nat} {v : Int32} (hc : ¬ (c = 8 ∧ (i = 21 ∨ i = 23))) : m_K (bt_gs σ c i k v) := fun p hp => by
  obtain ⟨h1, h2⟩ := h p hp
  rw [b_gs_ne (by omega), b_gs_ne (by omega)]
  exact ⟨h1, h2⟩
theorem m_Nn.gs {σ : bt_X} (h : m_Nn σ) {c i k : Nat} {v : Int32} (hc : ¬ (c = 8 ∧ i = 19) ∧ c ≠ 6) : m_Nn (bt_gs σ c i k v) := by
  obtain ⟨h1, h2, h3⟩ := h
  refine ⟨by rw [b_gs_ne (by omega)]; exact h1, by rw [b_gs_ne (by omega)]; exact h2, fun j hj => by rw [b_gs_ne (by omega)]; exact h3 j hj⟩
def m_brS (σ : bt_X) (m : Nat) (f t : Int32) : bt_X := bt_gs (bt_gs σ 8 13 m f) 8 14 m t
noncomputable def m_brk (σ x : bt_X) (a f t : Int32) : m_Rt := match b_ix (m_nm σ) a with
  | none => (nI 0, σ, m_thr x (nI 1))
  | some m => if m_in f (nI 0) (nI 9999) = 0 then (nI 0, σ, m_thr x (nI 2)) else if t ≤ f then (nI 0, σ, m_thr x (nI 2)) else if nI 10000 < t then (nI 0, σ, m_thr x (nI 2)) else
      (m_spanOf (m_brS σ m f t) (m_thr x (nI 0)), m_brS σ m f t, m_wS (m_brS σ m f t) (m_thr x (nI 0)))
def m_rep (σ x : bt_X) (a : Int32) : m_Rt := match b_ix (m_nm σ) a with
  | none => (nI 0, σ, m_thr x (nI 1))
  | some m => ((if σ.1 8 14 m ≤ 0 then nI 0 else nI 1), m_brS σ m (nI 0) (nI 0), m_thr x (nI 0))
def m_addJ (σ x : bt_X) (d : Int32) : m_Rt := if m_in d (nI 0) (nI 10000) = 0 then (nI 0, σ, m_thr x (nI 1)) else if m_nj σ = 8 then (nI 0, σ, m_thr x (nI 2)) else (nI (m_nj σ), bt_gs (bt_gs σ 8 18 (m_nj σ) d) 6 0 7 (nI (m_nj σ + 1)), m_thr x (nI 0))
def m_rng (l f t : Int32) : Int32 := if m_in l (nI 1) (nI 200) = 0 then nI 0 else if m_in f (nI 0) (nI 3) = 0 then nI 0 else if m_in t (nI 0) (nI 255) = 0 then nI 0 else nI 1
def m_opS (σ : bt_X) (j m : Nat) (l f t : Int32) : bt_X := bt_gs (bt_gs (bt_gs (bt_gs (bt_gs σ 8 21 (4 * j + m_np σ j) (nI m)) 8 22 (4 * j + m_np σ j) l) 8 23 (4 * j + m_np σ j) f) 8 24 (4 * j + m_np σ j) t) 8 19 j (nI (m_np σ j + 1))
noncomputable def m_addOv (σ x : bt_X) (a b l f t v : Int32) : m_Rt := match b_ix (m_nj σ) a with
  | none => (nI 0, σ, m_thr (m_thr x (nI 1)) (nI 1))
  | some j => match b_ix (m_nm σ) b with
    | none => (nI 0, σ, m_thr (m_thr x (nI 1)) (nI 1))
    | some m => if v = 0 then (nI 0, σ, m_thr (m_thr x (nI 2)) (nI 2)) else
        if m_np σ j = 4 then (nI 0, σ, m_thr (m_thr x (nI 0)) (nI 3)) else if σ.1 8 20 j = 0 then
          (if m_count t ≤ σ.1 8 12 m then (nI (m_np σ j), m_opS σ j m l f t, m_thr (m_thr x (nI 0)) (nI 0)) else (nI 0, σ, m_thr (m_thr x (nI 0)) (nI 3)))
        else (nI 0, σ, m_thr (m_thr x (nI 0)) (nI 3))
noncomputable def m_addO (σ x : bt_X) (a b l f t : Int32) : m_Rt := m_addOv σ x a b l f t (m_rng l f t)
def m_set (σ x : bt_X) (f g t : Int32) : m_Rt := if m_in f (nI 0) (nI 3) = 0 then (nI 0, σ, m_thr x (nI 1)) else if m_in g (nI 0) (nI 3) = 0 then (nI 0, σ, m_thr x (nI 1)) else if m_in t (nI 0) (nI 60) = 0 then (nI 0, σ, m_thr x (nI 2)) else
  (m_su σ (nN f) (nN g), bt_gs σ 8 25 (4 * nN f + nN g) t, m_thr x (nI 0))
def m_psh (m pl : Nat) : Nat → bt_X → bt_X
  | 0, x => x
  | n + 1, x => m_psh m pl n (bt_gs x 8 16 (32 * m + (pl + (n + 1))) (x.1 8 16 (32 * m + (pl + n))))
def m_puts (σ x : bt_X) (p pl : Nat) : bt_X :=
  bt_gs (bt_gs (m_psh (m_mc σ p) pl (m_rn x (m_mc σ p) - pl) x) 8 16 (32 * m_mc σ p + pl) (nI p)) 8 15 (m_mc σ p) (nI (m_rn x (m_mc σ p) + 1))
theorem m_psh_n {m pl c i k : Nat} (h : ¬ (c = 8 ∧ i = 16)) : ∀ (n : Nat) (x : bt_X), (m_psh m pl n x).1 c i k = x.1 c i k := by
  intro n
  induction n with
  | zero => intro x; rfl
  | succ n ih =>
    intro x
    unfold m_psh
    rw [ih, b_gs_ne (by omega)]
theorem m_psh_at {m pl : Nat} : ∀ (n : Nat) (x : bt_X) (j : Nat), (m_psh m pl n x).1 8 16 j = if 32 * m + pl < j ∧ j ≤ 32 * m + pl + n then x.1 8 16 (j - 1) else x.1 8 16 j := by
  intro n
  induction n with
  | zero => intro x j; rw [if_neg (by omega)]; rfl
  | succ n ih =>
    intro x j
    unfold m_psh
    rw [ih]
    by_cases c : 32 * m + pl < j ∧ j ≤ 32 * m + pl + n
    · rw [if_pos c, if_pos (by omega), b_gs_ne (by omega)]
    · rw [if_neg c]
      by_cases e : j = 32 * m + (pl + (n + 1))
      · subst e
        rw [b_gs_at, if_pos (by omega)]
        congr 1
      · rw [b_gs_ne (by omega), if_neg (by omega)]
/-- the places of the row behind a putting in -/
theorem m_puts_at {σ x : bt_X} {p pl : Nat} (hp : pl ≤ m_rn x (m_mc σ p)) {m k : Nat} (hm : m < 4) (hm2 : m_mc σ p < 4) (hk : k < 32) (h32 : m_rn x (m_mc σ p) < 32) :
    (m_puts σ x p pl).1 8 16 (32 * m + k) = if m = m_mc σ p then (if k = pl then nI p else if pl < k ∧ k ≤ m_rn x (m_mc σ p) then x.1 8 16 (32 * m + (k - 1)) else x.1 8 16 (32 * m + k)) else x.1 8 16 (32 * m + k) := by
  unfold m_puts
  rw [b_gs_ne (by omega)]
  by_cases e : m = m_mc σ p
  · rw [if_pos e]
    subst e
    by_cases e2 : k = pl
    · subst e2
      rw [if_pos rfl, b_gs_at]
    · rw [if_neg e2, b_gs_ne (by omega), m_psh_at]
      by_cases c : pl < k ∧ k ≤ m_rn x (m_mc σ p)
      · rw [if_pos c, if_pos (by omega)]
        exact congrArg (x.1 8 16) (by omega)
      · rw [if_neg c, if_neg (by omega)]
  · rw [if_neg e, b_gs_ne (by omega), m_psh_at, if_neg (by omega)]
theorem m_puts_rn {σ x : bt_X} {p pl m : Nat} (h32 : m_rn x (m_mc σ p) < 32) : m_rn (m_puts σ x p pl) m = if m = m_mc σ p then m_rn x m + 1 else m_rn x m := by
  unfold m_puts
  by_cases e : m = m_mc σ p
  · subst e
    rw [if_pos rfl]
    show nN _ = _
    rw [b_gs_at]
    exact nI_clamp (by omega)
  · rw [if_neg e]
    show nN _ = _
    rw [b_gs_ne (by omega), b_gs_ne (by omega), m_psh_n (by omega)]
    rfl
theorem m_puts_n {σ x : bt_X} {p pl c i k : Nat} (h : ¬ (c = 8 ∧ (i = 15 ∨ i = 16))) : (m_puts σ x p pl).1 c i k = x.1 c i k := by
  unfold m_puts
  rw [b_gs_ne (by omega), b_gs_ne (by omega), m_psh_n (by omega)]
theorem m_Rw.puts {σ x : bt_X} (h : m_Rw x) {p pl : Nat} (hp : p < 32) (hm2 : m_mc σ p < 4) (hpl : pl ≤ m_rn x (m_mc σ p)) (h32 : m_rn x (m_mc σ p) < 32) : m_Rw (m_puts σ x p pl) := by
  intro m hm
  have er := m_puts_rn (σ := σ) (x := x) (p := p) (pl := pl) (m := m) h32
  have e15 : (m_puts σ x p pl).1 8 15 m = nI (if m = m_mc σ p then m_rn x m + 1 else m_rn x m) := by
    by_cases e : m = m_mc σ p
    · subst e
      rw [if_pos rfl]
      unfold m_puts
      rw [b_gs_at]
    · rw [if_neg e]
      unfold m_puts
      rw [b_gs_ne (by omega), b_gs_ne (by omega), m_psh_n (by omega)]
      exact (h m hm).1.e
  have hl : (if m = m_mc σ p then m_rn x m + 1 else m_rn x m) < 33 := by
    by_cases e : m = m_mc σ p
    · subst e; rw [if_pos rfl]; omega
    · rw [if_neg e]; exact (h m hm).1.l
  refine ⟨by rw [e15]; exact m_wi hl (by omega), fun k hk => ?_⟩
  have hk2 : k < if m = m_mc σ p then m_rn x m + 1 else m_rn x m := by rw [← er]; exact hk
  rw [m_puts_at hpl hm hm2 (by omega) h32]
  by_cases e : m = m_mc σ p
  · subst e
    rw [if_pos rfl]
    rw [if_pos rfl] at hk2
    by_cases e2 : k = pl
    · rw [if_pos e2]; exact m_wi hp (by omega)
    · rw [if_neg e2]
      by_cases c : pl < k ∧ k ≤ m_rn x (m_mc σ p)
      · rw [if_pos c]
        exact (h _ hm).2 (k - 1) (show k - 1 < m_rn x (m_mc σ p) by omega)
      · rw [if_neg c]
        exact (h _ hm).2 k (show k < m_rn x (m_mc σ p) by omega)
  · rw [if_neg e]
    rw [if_neg e] at hk2
    exact (h m hm).2 k hk2
def m_fnd (x : bt_X) (m p : Nat) : Nat → Nat → Nat
  | 0, k => k
  | n + 1, k => if x.1 8 16 (32 * m + k) = nI p then k else m_fnd x m p n (k + 1)
def m_tsh (m : Nat) : Nat → Nat → bt_X → bt_X
  | 0, _, x => x
  | n + 1, j, x => m_tsh m n (j + 1) (bt_gs x 8 16 (32 * m + j) (x.1 8 16 (32 * m + j + 1)))
def m_at (σ x : bt_X) (p : Nat) : Nat := m_fnd x (m_mc σ p) p (m_rn x (m_mc σ p)) 0
def m_takes (σ x : bt_X) (p : Nat) : bt_X := m_tsh (m_mc σ p) (m_rn x (m_mc σ p) - 1 - m_at σ x p) (m_at σ x p) (bt_gs x 8 15 (m_mc σ p) (nI (m_rn x (m_mc σ p) - 1)))
/-- it is in its machine's row -/
def m_has (σ x : bt_X) (p : Nat) : Prop := ∃ i, i < m_rn x (m_mc σ p) ∧ x.1 8 16 (32 * m_mc σ p + i) = nI p
theorem m_fnd_s {x : bt_X} {m p : Nat} : ∀ (n k : Nat), (∃ i, k ≤ i ∧ i < k + n ∧ x.1 8 16 (32 * m + i) = nI p) → k ≤ m_fnd x m p n k ∧ m_fnd x m p n k < k + n ∧ x.1 8 16 (32 * m + m_fnd x m p n k) = nI p ∧ ∀ i, k ≤ i → i < m_fnd x m p n k → ¬ x.1 8 16 (32 * m + i) = nI p := by
  intro n
  induction n with
  | zero => rintro k ⟨i, h1, h2, -⟩; omega
  | succ n ih =>
    rintro k ⟨i, h1, h2, h3⟩
    unfold m_fnd
    by_cases c : x.1 8 16 (32 * m + k) = nI p
    · rw [if_pos c]
      exact ⟨Nat.le_refl _, by omega, c, fun i h4 h5 => by omega⟩
    · rw [if_neg c]
      have : i ≠ k := fun z => c (by rw [← z]; exact h3)
      obtain ⟨g1, g2, g3, g4⟩ := ih (k + 1) ⟨i, by omega, by omega, h3⟩
      refine ⟨by omega, by omega, g3, fun j h4 h5 => ?_⟩
      by_cases e : j = k
      · subst e; exact c
      · exact g4 j (by omega) h5
theorem m_at_s {σ x : bt_X} {p : Nat} (h : m_has σ x p) : m_at σ x p < m_rn x (m_mc σ p) ∧ x.1 8 16 (32 * m_mc σ p + m_at σ x p) = nI p ∧ ∀ i, i < m_at σ x p → ¬ x.1 8 16 (32 * m_mc σ p + i) = nI p := by
  obtain ⟨i, h1, h2⟩ := h
  obtain ⟨g1, g2, g3, g4⟩ := m_fnd_s (x := x) (m := m_mc σ p) (p := p) (m_rn x (m_mc σ p)) 0 ⟨i, by omega, by omega, h2⟩
  exact ⟨by rw [Nat.zero_add] at g2; exact g2, g3, fun j hj => g4 j (Nat.zero_le _) hj⟩
theorem m_tsh_n {m c i k : Nat} (h : ¬ (c = 8 ∧ i = 16)) : ∀ (n j : Nat) (x : bt_X), (m_tsh m n j x).1 c i k = x.1 c i k := by
  intro n
  induction n with
  | zero => intro j x; rfl
  | succ n ih =>
    intro j x
    unfold m_tsh
    rw [ih, b_gs_ne (by omega)]
theorem m_tsh_at {m : Nat} : ∀ (n j : Nat) (x : bt_X) (i : Nat), (m_tsh m n j x).1 8 16 i = if 32 * m + j ≤ i ∧ i < 32 * m + j + n then x.1 8 16 (i + 1) else x.1 8 16 i := by
  intro n
  induction n with
  | zero => intro j x i; rw [if_neg (by omega)]; rfl
  | succ n ih =>
    intro j x i
    unfold m_tsh
    rw [ih]
    by_cases c : 32 * m + (j + 1) ≤ i ∧ i < 32 * m + (j + 1) + n
    · rw [if_pos c, if_pos (by omega), b_gs_ne (by omega)]
    · rw [if_neg c]
      by_cases e : i = 32 * m + j
      · subst e
        rw [b_gs_at, if_pos (by omega)]
      · rw [b_gs_ne (by omega), if_neg (by omega)]
theorem m_takes_at {σ x : bt_X} {p : Nat} (h : m_has σ x p) {m k : Nat} (hm : m < 4) (hm2 : m_mc σ p < 4) (hk : k < 32) (h33 : m_rn x (m_mc σ p) < 33) (hk2 : m = m_mc σ p → k + 1 < m_rn x m) :
    (m_takes σ x p).1 8 16 (32 * m + k) = if m = m_mc σ p ∧ m_at σ x p ≤ k then x.1 8 16 (32 * m + (k + 1)) else x.1 8 16 (32 * m + k) := by
  obtain ⟨h1, -, -⟩ := m_at_s h
  unfold m_takes
  rw [m_tsh_at]
  by_cases e : m = m_mc σ p ∧ m_at σ x p ≤ k
  · have h3 := hk2 e.1
    obtain ⟨e1, e2⟩ := e
    subst e1
    rw [if_pos (by omega), if_pos ⟨rfl, e2⟩, b_gs_ne (by omega)]
    rfl
  · rw [if_neg e]
    rw [if_neg, b_gs_ne (by omega)]
    intro z
    by_cases e1 : m = m_mc σ p
    · have : ¬ m_at σ x p ≤ k := fun z2 => e ⟨e1, z2⟩
      rw [← e1] at z
      omega
    · omega
theorem m_takes_rn {σ x : bt_X} {p m : Nat} (h33 : m_rn x (m_mc σ p) < 33) : m_rn (m_takes σ x p) m = if m = m_mc σ p then m_rn x m - 1 else m_rn x m := by
  show nN _ = _
  unfold m_takes
  rw [m_tsh_n (by omega)]
  by_cases e : m = m_mc σ p
  · subst e
    rw [if_pos rfl, b_gs_at]
    exact nI_clamp (by omega)
  · rw [if_neg e, b_gs_ne (by omega)]
    rfl
theorem m_takes_n {σ x : bt_X} {p c i k : Nat} (h : ¬ (c = 8 ∧ (i = 15 ∨ i = 16))) : (m_takes σ x p).1 c i k = x.1 c i k := by
  unfold m_takes
  rw [m_tsh_n (by omega), b_gs_ne (by omega)]
theorem m_Rw.takes {σ x : bt_X} (h : m_Rw x) {p : Nat} (hm2 : m_mc σ p < 4) (hh : m_has σ x p) : m_Rw (m_takes σ x p) := by
  intro m hm
  have h33 : m_rn x (m_mc σ p) < 33 := (h _ hm2).1.l
  have er := m_takes_rn (σ := σ) (x := x) (p := p) (m := m) h33
  have e15 : (m_takes σ x p).1 8 15 m = nI (if m = m_mc σ p then m_rn x m - 1 else m_rn x m) := by
    unfold m_takes
    rw [m_tsh_n (by omega)]
    by_cases e : m = m_mc σ p
    · subst e
      rw [if_pos rfl, b_gs_at]
    · rw [if_neg e, b_gs_ne (by omega)]
      exact (h m hm).1.e
  have hl : (if m = m_mc σ p then m_rn x m - 1 else m_rn x m) < 33 := by
    have := (h m hm).1.l
    have e : m_rn x m = nN (x.1 8 15 m) := rfl
    split <;> omega
  refine ⟨by rw [e15]; exact m_wi hl (by omega), fun k hk => ?_⟩
  have hk2 : k < if m = m_mc σ p then m_rn x m - 1 else m_rn x m := by rw [← er]; exact hk
  have hrm := (h m hm).1.l
  have erm : m_rn x m = nN (x.1 8 15 m) := rfl
  rw [m_takes_at hh hm hm2 (by omega) h33 (fun e => by rw [if_pos e] at hk2; omega)]
  by_cases c : m = m_mc σ p ∧ m_at σ x p ≤ k
  · rw [if_pos c]
    rw [if_pos c.1] at hk2
    exact (h m hm).2 (k + 1) (by omega)
  · rw [if_neg c]
    refine (h m hm).2 k ?_
    by_cases e : m = m_mc σ p
    · rw [if_pos e] at hk2; omega
    · rw [if_neg e] at hk2; omega
def m_bars (σ : bt_X) (a : Int32) : Nat := match b_ix (m_nj σ) a with
  | none => 1
  | some j => if σ.1 8 20 j = 0 then (if m_np σ j = 0 then 2 else 0) else 2
theorem m_bars_n {σ : bt_X} {a : Int32} (h : b_ix (m_nj σ) a = none) : m_bars σ a = 1 := by unfold m_bars; rw [h]
theorem m_bars_s {σ : bt_X} {a : Int32} {j : Nat} (h : b_ix (m_nj σ) a = some j) : m_bars σ a = if σ.1 8 20 j = 0 then (if m_np σ j = 0 then 2 else 0) else 2 := by unfold m_bars; rw [h]
/-- how many are placed -/
def m_tot (x : bt_X) : Nat := m_rn x 0 + m_rn x 1 + m_rn x 2 + m_rn x 3
def m_plc (σ : bt_X) (j : Nat) : Nat → Nat → bt_X → bt_X
  | 0, _, x => x
  | n + 1, k, x => m_plc σ j n (k + 1) (m_puts σ x (4 * j + k) (m_rn x (m_mc σ (4 * j + k))))
noncomputable def m_mvd (σ : bt_X) (j : Nat) (v : Int32) (x : bt_X) : m_Rt := (m_spanOf (bt_gs σ 8 20 j v) x, bt_gs σ 8 20 j v, m_wS (bt_gs σ 8 20 j v) x)
noncomputable def m_place (σ x : bt_X) (a : Int32) : m_Rt := if m_bars σ a = 0 then m_mvd σ a.toNatClampNeg (nI 1) (m_plc σ a.toNatClampNeg (m_np σ a.toNatClampNeg) 0 (m_thr x (nI 0))) else (nI 0, σ, m_thr x (nI (m_bars σ a)))
theorem m_Rw.gs8 {x : bt_X} (h : m_Rw x) {i k : Nat} {v : Int32} (hi : i ≠ 15 ∧ i ≠ 16) : m_Rw (bt_gs x 8 i k v) := h.ext (fun i' k' hi' => b_gs_ne (by omega))
noncomputable def m_tsp (σ x : bt_X) (p k : Nat) : Int32 := m_span σ (m_wS σ (m_puts σ x p k))
noncomputable def m_tst (σ x : bt_X) (p k : Nat) : Int32 := (m_wS σ (m_puts σ x p k)).1 8 29 p
noncomputable def m_tsx (σ x : bt_X) (p k : Nat) : bt_X := m_takes σ (m_wS σ (m_puts σ x p k)) p
noncomputable def m_less (σ x : bt_X) (p k : Nat) (b : Option Nat) (s t : Int32) : Int32 := match b with
  | none => nI 1
  | some _ => if m_tsp σ x p k < s then nI 1 else if m_tsp σ x p k = s then (if t ≤ m_tst σ x p k then nI 0 else nI 1) else nI 0
/-- the best place, its span and start, and the state behind the trials -/
noncomputable def m_try (σ : bt_X) (p : Nat) : Nat → Nat → bt_X → Option Nat → Int32 → Int32 → Option Nat × bt_X
  | 0, _, x, b, _, _ => (b, x)
  | n + 1, k, x, b, s, t => if m_wOk σ (m_puts σ x p k) = 0 then m_try σ p n (k + 1) (m_tsx σ x p k) b s t
      else if m_less σ x p k b s t = 0 then m_try σ p n (k + 1) (m_tsx σ x p k) b s t
      else m_try σ p n (k + 1) (m_tsx σ x p k) (some k) (m_tsp σ x p k) (m_tst σ x p k)
noncomputable def m_tr (σ x : bt_X) (p : Nat) : Option Nat × bt_X := m_try σ p (m_rn x (m_mc σ p) + 1) 0 x none (nI 0) (nI 0)
noncomputable def m_rsh1 (σ x : bt_X) (p : Nat) : bt_X := m_puts σ (m_tr σ x p).2 p ((m_tr σ x p).1.getD 0)
noncomputable def m_rsh (σ : bt_X) (j : Nat) : Nat → Nat → bt_X → bt_X
  | 0, _, x => x
  | n + 1, k, x => m_rsh σ j n (k + 1) (m_rsh1 σ x (4 * j + k))
/-- each finds a place -/
def m_rok (σ : bt_X) (j : Nat) : Nat → Nat → bt_X → Prop
  | 0, _, _ => True
  | n + 1, k, x => (∃ b, (m_tr σ x (4 * j + k)).1 = some b) ∧ m_rok σ j n (k + 1) (m_rsh1 σ x (4 * j + k))
noncomputable def m_rush (σ x : bt_X) (a : Int32) : m_Rt := if m_bars σ a = 0 then m_mvd σ a.toNatClampNeg (nI 1) (m_rsh σ a.toNatClampNeg (m_np σ a.toNatClampNeg) 0 (m_thr x (nI 0))) else (nI 0, σ, m_thr x (nI (m_bars σ a)))
def m_tks (σ : bt_X) (j : Nat) : Nat → Nat → bt_X → bt_X
  | 0, _, x => x
  | n + 1, k, x => m_tks σ j n (k + 1) (m_takes σ x (4 * j + k))
def m_tok (σ : bt_X) (j : Nat) : Nat → Nat → bt_X → Prop
  | 0, _, _ => True
  | n + 1, k, x => m_has σ x (4 * j + k) ∧ m_tok σ j n (k + 1) (m_takes σ x (4 * j + k))
noncomputable def m_remv (σ x : bt_X) (a : Int32) : m_Rt := match b_ix (m_nj σ) a with
  | none => (nI 0, σ, m_thr x (nI 1))
  | some j => if σ.1 8 20 j = 0 then (nI 0, σ, m_thr x (nI 2)) else m_mvd σ j (nI 0) (m_tks σ j (m_np σ j) 0 (m_thr x (nI 0)))
def m_xc (x : bt_X) (m k : Nat) : bt_X := bt_gs (bt_gs x 8 16 (32 * m + k) (x.1 8 16 (32 * m + k + 1))) 8 16 (32 * m + k + 1) (x.1 8 16 (32 * m + k))
theorem m_Rw.xc {x : bt_X} (h : m_Rw x) {m k : Nat} (hm : m < 4) (hk : k + 1 < m_rn x m) : m_Rw (m_xc x m k) := by
  intro m' hm'
  have e15 : (m_xc x m k).1 8 15 m' = x.1 8 15 m' := by unfold m_xc; rw [b_gs_ne (by omega), b_gs_ne (by omega)]
  obtain ⟨h1, h2⟩ := h m' hm'
  rw [e15]
  refine ⟨h1, fun i hi => ?_⟩
  unfold m_xc
  have hl := h1.l
  have hl2 : m_rn x m < 33 := (h m hm).1.l
  by_cases e : 32 * m' + i = 32 * m + k + 1
  · rw [e, b_gs_at]
    exact (h m hm).2 k (show k < m_rn x m by omega)
  · rw [b_gs_ne (by omega)]
    by_cases e2 : 32 * m' + i = 32 * m + k
    · rw [e2, b_gs_at]
      exact (h m hm).2 (k + 1) hk
    · rw [b_gs_ne (by omega)]
      exact h2 i hi
def m_plcd (σ x : bt_X) (a : Int32) : m_Rt := match b_ix (m_nm σ) a with
  | none => (nI 0, σ, m_thr (m_thr x (nI 0)) (nI 1))
  | some m => (x.1 8 15 m, σ, m_thr x (nI 0))
def m_plAt (σ x : bt_X) (a p : Int32) : m_Rt := match b_ix (m_nm σ) a with
  | none => (nI 0, σ, m_thr (m_thr x (nI 0)) (nI 1))
  | some m => match b_ix (m_rn x m) p with
    | none => (nI 0, σ, m_thr (m_thr x (nI 0)) (nI 1))
    | some q => (m_code (m_ro x m q), σ, m_thr x (nI 0))
/-- the operation that is asked for, or what is thrown -/
def m_ask (σ : bt_X) (a b : Int32) : Nat ⊕ Nat := match b_ix (m_nj σ) a with
  | none => .inr 1
  | some j => match b_ix (m_np σ j) b with
    | none => .inr 1
    | some k => if σ.1 8 20 j = 0 then .inr 2 else .inl (4 * j + k)
noncomputable def m_stn (σ x : bt_X) (a b : Int32) : m_Rt := match m_ask σ a b with
  | .inr c => (nI 0, σ, m_wS σ (m_thr x (nI c)))
  | .inl p => ((m_wS σ (m_thr x (nI 0))).1 8 29 p, σ, m_wS σ (m_thr x (nI 0)))
noncomputable def m_ltn (σ x : bt_X) (j : Nat) : Int32 := m_fin σ (m_wS σ (m_thr x (nI 0))) (4 * j + m_np σ j - 1) - σ.1 8 18 j
noncomputable def m_late (σ x : bt_X) (a : Int32) : m_Rt := match b_ix (m_nj σ) a with
  | none => (nI 0, σ, m_thr x (nI 1))
  | some j => if σ.1 8 20 j = 0 then (nI 0, σ, m_thr x (nI 2)) else ((if m_ltn σ x j ≤ 0 then nI 0 else m_ltn σ x j), σ, m_wS σ (m_thr x (nI 0)))
noncomputable def m_spanF (σ x : bt_X) : m_Rt := (m_spanOf σ (m_thr x (nI 0)), σ, m_wS σ (m_thr x (nI 0)))
noncomputable def m_slk (σ x : bt_X) (a b : Int32) : m_Rt := match m_ask σ a b with
  | .inr c => (nI 0, σ, m_thr x (nI c))
  | .inl p => ((m_back σ (m_thr x (nI 0))).1 8 30 p - (m_back σ (m_thr x (nI 0))).1 8 29 p, σ, m_back σ (m_thr x (nI 0)))
theorem m_pl_len {σ x : bt_X} : ∀ (n : Nat) (i : Option Nat), (m_pl σ x n i).length ≤ n := by
  intro n
  induction n with
  | zero => intro i; cases i <;> exact Nat.le_refl _
  | succ n ih =>
    intro i
    cases i with
    | none => exact Nat.zero_le _
    | some q => exact Nat.succ_le_succ (ih _)
noncomputable def m_crit (σ x : bt_X) : m_Rt := (nI (m_plist σ (m_thr x (nI 0))).length, σ, m_walks σ (m_thr x (nI 0)))
noncomputable def m_crAt (σ x : bt_X) (p : Int32) : m_Rt := match b_ix (m_plist σ x).length p with
  | none => (nI 0, σ, m_thr (m_walks σ x) (nI 1))
  | some i => (m_code ((m_plist σ x).getD ((m_plist σ x).length - 1 - i) 0), σ, m_thr (m_walks σ x) (nI 0))
theorem m_plist_len {σ x : bt_X} : (m_plist σ x).length ≤ 32 := by
  have := m_pl_len (σ := σ) (x := m_wS σ x) m_32 (m_last σ x)
  rw [m_32_e] at this
  unfold m_plist
  rw [m_32_e]
  exact this
