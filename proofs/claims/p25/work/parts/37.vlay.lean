/-! ===== the reference's links and the rows ===== -/
section VL
variable {σ x y : bt_X}
/-- the reference's rows are the class's -/
def v_Rd (σ y x : bt_X) : Prop := m_Rw x ∧ (∀ m, m < 4 → m_rn x m = if m < b_nm σ then (y.2.2 (4 + m)).length else 0) ∧ ∀ m, m < b_nm σ → ∀ k i : Nat, (y.2.2 (4 + m))[k]? = some i → m_ro x m k = i
theorem m_lk_16 {m k r q i k' : Nat} (h : ¬ (26 ≤ i ∧ i ≤ 28)) : (m_lk x m k r q).1 8 i k' = x.1 8 i k' := by
  unfold m_lk
  rw [b_gs_ne (by omega), b_gs_ne (by omega), b_gs_ne (by omega)]
theorem m_lk_o {m k r q p i : Nat} (h : p ≠ q) : (m_lk x m k r q).1 8 i p = x.1 8 i p := by
  unfold m_lk
  rw [b_gs_ne (by omega), b_gs_ne (by omega), b_gs_ne (by omega)]
theorem m_lkR_out {m r p i : Nat} : ∀ (n k : Nat) (x : bt_X), n + k = r → (∀ k', k ≤ k' → k' < r → m_ro x m k' ≠ p) → (m_lkR m r n k x).1 8 i p = x.1 8 i p := by
  intro n
  induction n with
  | zero => intro k x _ _; rfl
  | succ n ih =>
    intro k x hk h
    unfold m_lkR
    have e : ∀ k', m_ro (m_lk x m k r (m_ro x m k)) m k' = m_ro x m k' := fun k' => by unfold m_ro; rw [m_lk_16 (by omega)]
    show (m_lkR m r n (k + 1) (m_lk x m k r (m_ro x m k))).1 8 i p = _
    rw [ih (k + 1) _ (by omega) (fun k' h1 h2 => by rw [e]; exact h k' (by omega) h2), m_lk_o (fun z => h k (Nat.le_refl _) (by omega) z.symm)]
/-- what a row's operation is told -/
def v_told (x y : bt_X) (m r k p : Nat) : Prop := y.1 8 26 p = nI 1 ∧ y.1 8 27 p = (if nI k = 0 then (-1 : Int32) else x.1 8 16 (32 * m + k - 1)) ∧ y.1 8 28 p = (if nI k = nI r - nI 1 then (-1 : Int32) else x.1 8 16 (32 * m + k + 1))
theorem m_lkR_in {m r : Nat} : ∀ (n k : Nat) (x : bt_X), n + k = r → (∀ a b, a < r → b < r → m_ro x m a = m_ro x m b → a = b) → ∀ k', k ≤ k' → k' < r → v_told x (m_lkR m r n k x) m r k' (m_ro x m k') := by
  intro n
  induction n with
  | zero => intro k x hk _ k' h1 h2; omega
  | succ n ih =>
    intro k x hk hinj k' h1 h2
    have e : ∀ k', m_ro (m_lk x m k r (m_ro x m k)) m k' = m_ro x m k' := fun k' => by unfold m_ro; rw [m_lk_16 (by omega)]
    unfold m_lkR
    show v_told x (m_lkR m r n (k + 1) (m_lk x m k r (m_ro x m k))) m r k' (m_ro x m k')
    rcases Nat.lt_or_ge k k' with z | z
    · have g := ih (k + 1) (m_lk x m k r (m_ro x m k)) (by omega) (fun a b ha hb hab => hinj a b ha hb (by rw [e, e] at hab; exact hab)) k' (by omega) h2
      rw [e] at g
      unfold v_told at g ⊢
      rw [m_lk_16 (by omega), m_lk_16 (by omega)] at g
      exact g
    · have : k' = k := by omega
      subst this
      unfold v_told
      have ho : ∀ i, (m_lkR m r n (k' + 1) (m_lk x m k' r (m_ro x m k'))).1 8 i (m_ro x m k') = (m_lk x m k' r (m_ro x m k')).1 8 i (m_ro x m k') := fun i =>
        m_lkR_out n (k' + 1) _ (by omega) (fun k'' q1 q2 z2 => by rw [e] at z2; have := hinj k'' k' q2 h2 z2; omega)
      rw [ho, ho, ho]
      unfold m_lk
      refine ⟨?_, ?_, ?_⟩
      · rw [b_gs_ne (by omega), b_gs_ne (by omega), b_gs_at]
      · rw [b_gs_ne (by omega), b_gs_at]
      · rw [b_gs_at]
theorem m_lkM_out {p i : Nat} : ∀ (n m : Nat) (x : bt_X), (∀ m', m ≤ m' → m' < m + n → ∀ k, k < m_rn x m' → m_ro x m' k ≠ p) → (m_lkM n m x).1 8 i p = x.1 8 i p := by
  intro n
  induction n with
  | zero => intro m x _; rfl
  | succ n ih =>
    intro m x h
    unfold m_lkM
    have e1 : ∀ m' k, m_ro (m_lkR m (nN (x.1 8 15 m)) (nN (x.1 8 15 m)) 0 x) m' k = m_ro x m' k := fun m' k => by unfold m_ro; rw [m_lkR_n (by omega)]
    have e2 : ∀ m', m_rn (m_lkR m (nN (x.1 8 15 m)) (nN (x.1 8 15 m)) 0 x) m' = m_rn x m' := fun m' => by unfold m_rn; rw [m_lkR_n (by omega)]
    rw [ih (m + 1) _ (fun m' h1 h2 k hk => by rw [e2] at hk; rw [e1]; exact h m' (by omega) (by omega) k hk)]
    exact m_lkR_out _ _ _ rfl (fun k' _ h2 => h m (Nat.le_refl _) (by omega) k' h2)
theorem m_lkM_in : ∀ (n m : Nat) (x : bt_X), (∀ m1 m2 a b, m1 < m + n → m2 < m + n → a < m_rn x m1 → b < m_rn x m2 → m_ro x m1 a = m_ro x m2 b → m1 = m2 ∧ a = b) → ∀ m', m ≤ m' → m' < m + n → ∀ k, k < m_rn x m' → v_told x (m_lkM n m x) m' (m_rn x m') k (m_ro x m' k) := by
  intro n
  induction n with
  | zero => intro m x _ m' h1 h2; omega
  | succ n ih =>
    intro m x hinj m' h1 h2 k hk
    unfold m_lkM
    have e1 : ∀ m' k, m_ro (m_lkR m (nN (x.1 8 15 m)) (nN (x.1 8 15 m)) 0 x) m' k = m_ro x m' k := fun m' k => by unfold m_ro; rw [m_lkR_n (by omega)]
    have e2 : ∀ m', m_rn (m_lkR m (nN (x.1 8 15 m)) (nN (x.1 8 15 m)) 0 x) m' = m_rn x m' := fun m' => by unfold m_rn; rw [m_lkR_n (by omega)]
    rcases Nat.lt_or_ge m m' with z | z
    · have g := ih (m + 1) (m_lkR m (nN (x.1 8 15 m)) (nN (x.1 8 15 m)) 0 x) (fun m1 m2 a b q1 q2 q3 q4 q5 => by
        rw [e2] at q3 q4
        rw [e1, e1] at q5
        exact hinj m1 m2 a b (by omega) (by omega) q3 q4 q5) m' (by omega) (by omega) k (by rw [e2]; exact hk)
      rw [e1, e2] at g
      unfold v_told at g ⊢
      rw [m_lkR_n (by omega), m_lkR_n (by omega)] at g
      exact g
    · have : m' = m := by omega
      subst this
      have g := m_lkR_in (m := m') (r := nN (x.1 8 15 m')) (nN (x.1 8 15 m')) 0 x rfl (fun a b ha hb hab => (hinj m' m' a b (by omega) (by omega) ha hb hab).2) k (Nat.zero_le _) hk
      have ho : ∀ i, (m_lkM n (m' + 1) (m_lkR m' (nN (x.1 8 15 m')) (nN (x.1 8 15 m')) 0 x)).1 8 i (m_ro x m' k) = (m_lkR m' (nN (x.1 8 15 m')) (nN (x.1 8 15 m')) 0 x).1 8 i (m_ro x m' k) := fun i =>
        m_lkM_out n (m' + 1) _ (fun m2 q1 q2 b hb z2 => by
          rw [e2] at hb
          rw [e1] at z2
          have := (hinj m2 m' b k (by omega) (by omega) hb hk z2).1
          omega)
      unfold v_told at g ⊢
      rw [ho, ho, ho]
      exact g
theorem m_z_26 : ∀ (n p : Nat) (x : bt_X) (q : Nat), p ≤ q → q < p + n → (m_z n p x).1 8 26 q = nI 0 ∧ (m_z n p x).1 8 29 q = nI 0 := by
  intro n
  induction n with
  | zero => intro p x q h1 h2; omega
  | succ n ih =>
    intro p x q h1 h2
    unfold m_z
    rcases Nat.lt_or_ge p q with z | z
    · exact ih (p + 1) _ q (by omega) (by omega)
    · have : q = p := by omega
      subst this
      have key : ∀ (n p : Nat) (x : bt_X) (q i : Nat), q < p → (m_z n p x).1 8 i q = x.1 8 i q := by
        intro n
        induction n with
        | zero => intro p x q i _; rfl
        | succ n ih2 =>
          intro p x q i hq
          unfold m_z
          rw [ih2 (p + 1) _ q i (by omega)]
          unfold m_z1
          rw [b_gs_ne (by omega), b_gs_ne (by omega), b_gs_ne (by omega), b_gs_ne (by omega)]
      rw [key n (q + 1) _ q _ (by omega), key n (q + 1) _ q _ (by omega)]
      unfold m_z1
      exact ⟨by rw [b_gs_ne (by omega), b_gs_ne (by omega), b_gs_ne (by omega), b_gs_at], by rw [b_gs_at]⟩
theorem v_op32 (hS : b_St σ) {i : Nat} (h : v_op σ i) : i < 32 := by
  have := hS.2.2.2.1
  have h1 := h.1
  omega
/-- the operations of a row, told of by the reference -/
theorem v_lays_in (hS : b_St σ) (hW : v_W σ y) (hR : v_Rd σ y x) (hnm : m_nm σ = b_nm σ) {m k i : Nat} (hm : m < b_nm σ) (hi : (y.2.2 (4 + m))[k]? = some i) :
    (m_lays σ x).1 8 26 i = nI 1 ∧ m_opt ((m_lays σ x).1 8 27 i) = (if k = 0 then none else (y.2.2 (4 + m))[k - 1]?) ∧ m_opt ((m_lays σ x).1 8 28 i) = (y.2.2 (4 + m))[k + 1]? := by
  obtain ⟨r0, r1, r2⟩ := hR
  have hm4 : ∀ m, m < b_nm σ → m < 4 := fun m h => by have := hS.2.1; omega
  have rl : ∀ m, m < b_nm σ → m_rn x m = (y.2.2 (4 + m)).length := fun m h => by rw [r1 m (hm4 m h), if_pos h]
  have get : ∀ m, m < b_nm σ → ∀ a, a < m_rn x m → (y.2.2 (4 + m))[a]? = some (m_ro x m a) := fun m h a ha => by
    rw [rl m h] at ha
    have e := List.getElem?_eq_getElem ha
    rw [e, r2 m h a _ e]
  have hkl := v_lt hi
  have hk : k < m_rn x m := by rw [rl m hm]; exact hkl
  have e15 : ∀ m', m_rn (m_z m_32 0 x) m' = m_rn x m' := fun m' => by unfold m_rn; rw [m_z_n (by omega)]
  have e16 : ∀ m' k, m_ro (m_z m_32 0 x) m' k = m_ro x m' k := fun m' k => by unfold m_ro; rw [m_z_n (by omega)]
  have g := m_lkM_in (m_nm σ) 0 (m_z m_32 0 x) (fun m1 m2 a b q1 q2 q3 q4 q5 => by
    rw [Nat.zero_add, hnm] at q1 q2
    rw [e15] at q3 q4
    rw [e16, e16] at q5
    have ga := get m1 q1 a q3
    have gb := get m2 q2 b q4
    have b1 := ((hW.1 m1 q1).2 _ (List.mem_of_getElem? ga)).2
    have b2 := ((hW.1 m2 q2).2 _ (List.mem_of_getElem? gb)).2
    rw [q5] at b1
    have em : m1 = m2 := b1.symm.trans b2
    subst em
    rw [← q5] at gb
    exact ⟨rfl, v_nd (hW.1 m1 q1).1 ga gb⟩) m (Nat.zero_le _) (by rw [hnm]; omega) k (by rw [e15]; exact hk)
  rw [e15, e16, r2 m hm k i hi] at g
  obtain ⟨g1, g2, g3⟩ := g
  have hlen := v_len hS hW hm
  refine ⟨g1, ?_, ?_⟩
  · show m_opt ((m_lkM (m_nm σ) 0 (m_z m_32 0 x)).1 8 27 i) = _
    rw [g2, m_z_n (by omega)]
    by_cases e : k = 0
    · subst e
      rw [if_pos (show nI 0 = 0 from rfl), if_pos rfl]
      rfl
    · rw [if_neg (nI_ne0 (by omega) (by omega)), if_neg e, get m hm (k - 1) (by omega), show 32 * m + k - 1 = 32 * m + (k - 1) by omega]
      have hw := (r0 m (hm4 m hm)).2 (k - 1) (show k - 1 < m_rn x m by omega)
      unfold m_opt
      rw [if_neg (fun z => m_nI_ne (q := nN (x.1 8 16 (32 * m + (k - 1)))) (by have := hw.l; omega) (by rw [← hw.e]; exact z))]
      rfl
  · show m_opt ((m_lkM (m_nm σ) 0 (m_z m_32 0 x)).1 8 28 i) = _
    rw [g3, m_z_n (by omega)]
    have ers : nI (m_rn x m) - nI 1 = nI (m_rn x m - 1) := pk_sub (by omega)
    by_cases e : k + 1 = m_rn x m
    · rw [if_pos (by rw [ers]; congr 1; omega), List.getElem?_eq_none (by rw [← rl m hm]; omega)]
      rfl
    · rw [if_neg (fun z => e (by rw [ers, nI_eq (by omega) (by rw [rl m hm]; omega)] at z; omega)), get m hm (k + 1) (by omega)]
      have hw := (r0 m (hm4 m hm)).2 (k + 1) (show k + 1 < m_rn x m by omega)
      show m_opt (x.1 8 16 (32 * m + (k + 1))) = some (nN (x.1 8 16 (32 * m + (k + 1))))
      unfold m_opt
      rw [if_neg (fun z => m_nI_ne (q := nN (x.1 8 16 (32 * m + (k + 1)))) (by have := hw.l; omega) (by rw [← hw.e]; exact z))]
theorem v_lays_out (hS : b_St σ) (hR : v_Rd σ y x) (hnm : m_nm σ = b_nm σ) {i : Nat} (hi : i < 32) (h : ∀ m, m < b_nm σ → i ∉ y.2.2 (4 + m)) : (m_lays σ x).1 8 26 i = nI 0 := by
  obtain ⟨r0, r1, r2⟩ := hR
  have hm4 : ∀ m, m < b_nm σ → m < 4 := fun m h => by have := hS.2.1; omega
  have e15 : ∀ m', m_rn (m_z m_32 0 x) m' = m_rn x m' := fun m' => by unfold m_rn; rw [m_z_n (by omega)]
  have e16 : ∀ m' k, m_ro (m_z m_32 0 x) m' k = m_ro x m' k := fun m' k => by unfold m_ro; rw [m_z_n (by omega)]
  unfold m_lays
  rw [m_lkM_out _ _ _ (fun m _ h2 k hk z => ?_)]
  · exact (m_z_26 m_32 0 x i (Nat.zero_le _) (by rw [m_32_e]; omega)).1
  · rw [Nat.zero_add, hnm] at h2
    rw [e15, r1 m (hm4 m h2), if_pos h2] at hk
    rw [e16] at z
    have e := List.getElem?_eq_getElem hk
    have := r2 m h2 k _ e
    rw [z] at this
    rw [← this] at e
    exact h m h2 (List.mem_of_getElem? e)
theorem v_lays_29 {i : Nat} (hi : i < 32) : (m_lays σ x).1 8 29 i = nI 0 := by
  unfold m_lays
  rw [m_lkM_n (by omega)]
  exact (m_z_26 m_32 0 x i (Nat.zero_le _) (by rw [m_32_e]; omega)).2
end VL

