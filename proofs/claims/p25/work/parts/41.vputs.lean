/-! ===== rows: the reference's ===== -/
section VP
variable {σ x y y' x' : bt_X}
theorem v_Rd.ext (h : v_Rd σ y x) (e1 : ∀ m, m < b_nm σ → y'.2.2 (4 + m) = y.2.2 (4 + m)) (e2 : ∀ i k, i = 15 ∨ i = 16 → x'.1 8 i k = x.1 8 i k) : v_Rd σ y' x' := by
  obtain ⟨h1, h2, h3⟩ := h
  have er : ∀ m, m_rn x' m = m_rn x m := fun m => by unfold m_rn; rw [e2 15 m (Or.inl rfl)]
  have eo : ∀ m k, m_ro x' m k = m_ro x m k := fun m k => by unfold m_ro; rw [e2 16 _ (Or.inr rfl)]
  refine ⟨h1.ext e2, fun m hm => ?_, fun m hm k i hi => ?_⟩
  · rw [er, h2 m hm]
    by_cases c : m < b_nm σ
    · rw [if_pos c, if_pos c, e1 m c]
    · rw [if_neg c, if_neg c]
  · rw [eo]
    rw [e1 m hm] at hi
    exact h3 m hm k i hi
theorem v_Rd_puts (hSt : b_St σ) (h : v_Rd σ y x) {p pl : Nat} (hp : p < 32) (hmc : m_mc σ p = b_m σ p) (hm : b_m σ p < b_nm σ) (hpl : pl ≤ (y.2.2 (4 + b_m σ p)).length) (h32 : (y.2.2 (4 + b_m σ p)).length < 32)
    (e1 : y'.2.2 (4 + b_m σ p) = (y.2.2 (4 + b_m σ p)).insertIdx pl p) (e2 : ∀ m, m ≠ b_m σ p → y'.2.2 (4 + m) = y.2.2 (4 + m)) : v_Rd σ y' (m_puts σ x p pl) := by
  obtain ⟨h1, h2, h3⟩ := h
  have hm4 : ∀ m, m < b_nm σ → m < 4 := fun m h => by have := hSt.2.1; omega
  have er : m_rn x (m_mc σ p) = (y.2.2 (4 + b_m σ p)).length := by rw [hmc, h2 _ (hm4 _ hm), if_pos hm]
  have hmc4 : m_mc σ p < 4 := by rw [hmc]; exact hm4 _ hm
  refine ⟨h1.puts hp hmc4 (by omega) (by omega), fun m hm' => ?_, fun m hm' k i hi => ?_⟩
  · rw [m_puts_rn (by omega), h2 m hm', hmc]
    by_cases c : m = b_m σ p
    · subst c
      rw [if_pos rfl, if_pos hm, if_pos hm, e1, List.length_insertIdx_of_le_length hpl]
    · rw [if_neg c, e2 m c]
  · have hk32 : k < 32 := by
      have := v_lt hi
      by_cases c : m = b_m σ p
      · subst c
        rw [e1, List.length_insertIdx_of_le_length hpl] at this
        omega
      · rw [e2 m c] at this
        have e := h2 m (hm4 m hm')
        rw [if_pos hm'] at e
        have := (h1 m (hm4 m hm')).1.l
        have e9 : m_rn x m = nN (x.1 8 15 m) := rfl
        omega
    unfold m_ro
    rw [m_puts_at (by omega) (hm4 m hm') hmc4 hk32 (by omega), hmc]
    by_cases c : m = b_m σ p
    · subst c
      rw [if_pos rfl]
      rw [e1, List.getElem?_insertIdx] at hi
      by_cases d : k < pl
      · rw [if_pos d] at hi
        rw [if_neg (by omega), if_neg (by omega)]
        exact h3 _ hm k i hi
      · rw [if_neg d] at hi
        by_cases e : k = pl
        · rw [if_pos e, if_pos (by omega)] at hi
          cases hi
          rw [if_pos e]
          exact nI_clamp (by omega)
        · rw [if_neg e] at hi
          have := v_lt hi
          rw [if_neg e, if_pos ⟨by omega, by rw [← hmc, er]; omega⟩]
          exact h3 _ hm (k - 1) i hi
    · rw [if_neg c]
      rw [e2 m c] at hi
      exact h3 m hm' k i hi
def v_W1 (σ y : bt_X) : Prop := ∀ m, m < b_nm σ → (y.2.2 (4 + m)).Nodup ∧ ∀ i ∈ y.2.2 (4 + m), v_op σ i ∧ b_m σ i = m
/-- where it stands in its row -/
theorem v_at (hSt : b_St σ) (hW : v_W1 σ y) (h : v_Rd σ y x) {p q : Nat} (hmc : m_mc σ p = b_m σ p) (hm : b_m σ p < b_nm σ) (hq : (y.2.2 (4 + b_m σ p))[q]? = some p) : m_has σ x p ∧ m_at σ x p = q := by
  obtain ⟨h1, h2, h3⟩ := h
  have hm4 : b_m σ p < 4 := by have := hSt.2.1; omega
  have er : m_rn x (b_m σ p) = (y.2.2 (4 + b_m σ p)).length := by rw [h2 _ hm4, if_pos hm]
  have hl := v_lt hq
  have at16 : ∀ k i, (y.2.2 (4 + b_m σ p))[k]? = some i → x.1 8 16 (32 * b_m σ p + k) = nI i := fun k i hk => by
    have := ((h1 _ hm4).2 k (show k < m_rn x (b_m σ p) by rw [er]; exact v_lt hk)).e
    rw [this]
    exact congrArg nI (h3 _ hm k i hk)
  have hh : m_has σ x p := ⟨q, by rw [hmc, er]; exact hl, by rw [hmc]; exact at16 q p hq⟩
  refine ⟨hh, ?_⟩
  obtain ⟨g1, g2, -⟩ := m_at_s hh
  rw [hmc] at g1 g2
  rw [er] at g1
  have e := List.getElem?_eq_getElem g1
  have := at16 _ _ e
  rw [g2] at this
  have h31 : ∀ i ∈ y.2.2 (4 + b_m σ p), i < 2 ^ 31 := fun i hi => by have := v_op32 hSt ((hW _ hm).2 i hi).1; omega
  have ep : p = (y.2.2 (4 + b_m σ p))[m_at σ x p] := (nI_eq (h31 p (List.mem_of_getElem? hq)) (h31 _ (List.mem_of_getElem? e))).mp this
  rw [← ep] at e
  exact v_nd (hW _ hm).1 e hq
theorem v_Rd_takes (hSt : b_St σ) (hW : v_W1 σ y) (h : v_Rd σ y x) {p q : Nat} (hmc : m_mc σ p = b_m σ p) (hm : b_m σ p < b_nm σ) (hq : (y.2.2 (4 + b_m σ p))[q]? = some p)
    (e1 : y'.2.2 (4 + b_m σ p) = (y.2.2 (4 + b_m σ p)).eraseIdx q) (e2 : ∀ m, m < b_nm σ → m ≠ b_m σ p → y'.2.2 (4 + m) = y.2.2 (4 + m)) : v_Rd σ y' (m_takes σ x p) := by
  obtain ⟨hh, hat⟩ := v_at hSt hW h hmc hm hq
  obtain ⟨h1, h2, h3⟩ := h
  have hm4 : ∀ m, m < b_nm σ → m < 4 := fun m h => by have := hSt.2.1; omega
  have hmc4 : m_mc σ p < 4 := by rw [hmc]; exact hm4 _ hm
  have hl := v_lt hq
  have h33 : m_rn x (m_mc σ p) < 33 := (h1 _ hmc4).1.l
  have er : m_rn x (m_mc σ p) = (y.2.2 (4 + b_m σ p)).length := by rw [hmc, h2 _ (hm4 _ hm), if_pos hm]
  refine ⟨h1.takes hmc4 hh, fun m hm' => ?_, fun m hm' k i hi => ?_⟩
  · rw [m_takes_rn h33, h2 m hm', hmc]
    by_cases c : m = b_m σ p
    · subst c
      rw [if_pos rfl, if_pos hm, if_pos hm, e1, List.length_eraseIdx, if_pos hl]
    · rw [if_neg c]
      by_cases d : m < b_nm σ
      · rw [if_pos d, if_pos d, e2 m d c]
      · rw [if_neg d, if_neg d]
  · have hkl := v_lt hi
    unfold m_ro
    by_cases c : m = b_m σ p
    · subst c
      rw [e1, List.length_eraseIdx, if_pos hl] at hkl
      rw [m_takes_at hh (hm4 _ hm) hmc4 (by omega) h33 (fun _ => by rw [← hmc, er]; omega), hat, hmc]
      rw [e1, List.getElem?_eraseIdx] at hi
      by_cases d : k < q
      · rw [if_pos d] at hi
        rw [if_neg (by omega)]
        exact h3 _ hm k i hi
      · rw [if_neg d] at hi
        rw [if_pos ⟨rfl, by omega⟩]
        exact h3 _ hm (k + 1) i hi
    · rw [e2 m hm' c] at hi hkl
      have e := h2 m (hm4 m hm')
      rw [if_pos hm'] at e
      have := (h1 m (hm4 m hm')).1.l
      have e9 : m_rn x m = nN (x.1 8 15 m) := rfl
      rw [m_takes_at hh (hm4 m hm') hmc4 (by omega) h33 (fun z => absurd (z.trans hmc) c), if_neg (fun z => c (z.1.trans hmc))]
      exact h3 m hm' k i hi
theorem v_Rd_xc (hSt : b_St σ) (h : v_Rd σ y x) {m q a b : Nat} (hm : m < b_nm σ) (ha : (y.2.2 (4 + m))[q]? = some a) (hb : (y.2.2 (4 + m))[q + 1]? = some b)
    (e1 : y'.2.2 (4 + m) = ((y.2.2 (4 + m)).set q b).set (q + 1) a) (e2 : ∀ m', m' ≠ m → y'.2.2 (4 + m') = y.2.2 (4 + m')) : v_Rd σ y' (m_xc x m q) := by
  obtain ⟨h1, h2, h3⟩ := h
  have hm4 : ∀ m, m < b_nm σ → m < 4 := fun m h => by have := hSt.2.1; omega
  have er : m_rn x m = (y.2.2 (4 + m)).length := by rw [h2 _ (hm4 _ hm), if_pos hm]
  have hl := v_lt hb
  have ern : ∀ m', m_rn (m_xc x m q) m' = m_rn x m' := fun m' => by unfold m_rn m_xc; rw [b_gs_ne (by omega), b_gs_ne (by omega)]
  refine ⟨h1.xc (hm4 m hm) (by omega), fun m' hm' => ?_, fun m' hm' k i hi => ?_⟩
  · rw [ern, h2 m' hm']
    by_cases c : m' = m
    · subst c; rw [if_pos hm, if_pos hm, e1, List.length_set, List.length_set]
    · by_cases d : m' < b_nm σ
      · rw [if_pos d, if_pos d, e2 m' c]
      · rw [if_neg d, if_neg d]
  · have hkl := v_lt hi
    have hk32 : k < 32 := by
      by_cases c : m' = m
      · subst c
        rw [e1, List.length_set, List.length_set, ← er] at hkl
        have := (h1 m' (hm4 m' hm)).1.l
        have e9 : m_rn x m' = nN (x.1 8 15 m') := rfl
        omega
      · rw [e2 m' c] at hkl
        have e := h2 m' (hm4 m' hm')
        rw [if_pos hm'] at e
        have := (h1 m' (hm4 m' hm')).1.l
        have e9 : m_rn x m' = nN (x.1 8 15 m') := rfl
        omega
    have hq32 : q + 1 < 32 := by
      have := (h1 m (hm4 m hm)).1.l
      have e9 : m_rn x m = nN (x.1 8 15 m) := rfl
      omega
    unfold m_ro m_xc
    by_cases c : m' = m
    · subst c
      rw [e1] at hi
      by_cases d : k = q + 1
      · subst d
        rw [List.getElem?_set_self (by rw [List.length_set]; exact hl)] at hi
        cases hi
        rw [show 32 * m' + (q + 1) = 32 * m' + q + 1 by omega, b_gs_at]
        exact h3 _ hm q _ ha
      · rw [List.getElem?_set_ne (by omega)] at hi
        rw [b_gs_ne (by omega)]
        by_cases d2 : k = q
        · subst d2
          rw [List.getElem?_set_self (by omega)] at hi
          cases hi
          rw [b_gs_at]
          exact h3 _ hm (k + 1) _ hb
        · rw [List.getElem?_set_ne (by omega)] at hi
          rw [b_gs_ne (by omega)]
          exact h3 _ hm k i hi
    · rw [e2 m' c] at hi
      rw [b_gs_ne (by omega), b_gs_ne (by omega)]
      exact h3 m' hm' k i hi
end VP

