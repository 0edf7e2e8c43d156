/-! ===== lateness; starts by rounds ===== -/
section VB
variable {σ x y w z : bt_X}
/-- the parts of what holds, and the starts -/
theorem v_Sx (h : v_Inv σ x) : v_So σ x (x.2.2 2) (v_s x) ∧ ∀ i ∈ x.2.2 2, v_op σ i ∧ x.1 2 i 10 = nI (v_s x i) ∧ x.1 2 i 11 = nI (v_s x i + v_ln σ i) ∧ v_s x i ≤ 18320 := by
  obtain ⟨⟨⟨a1, a2, a3, a4, a5, a6⟩, b1, b2, b3, b4, b5⟩, c1, c2, c3⟩ := h
  have hSo := v_CI_So a1 a2 a3 a4 b1 b4 b5
  refine ⟨hSo, fun i hi => ?_⟩
  obtain ⟨n, hn⟩ := v_mem hi
  obtain ⟨q1, q2, q3, q4, q5⟩ := v_sol a1 a2 a3 a4 b1 b4 n i hn
  exact ⟨q1, q2, q3, (hSo.2.2.2.2.2 i hi).2⟩
theorem v_lsN_ge (hM : v_M σ) {m r l : Nat} (hm : m < b_nm σ) : r ≤ v_lsN σ m r l := (v_lsN_le hM hm).1
/-- what is ahead finishes before -/
theorem v_ahead_le (h : v_Inv σ x) {i a : Nat} (hi : i ∈ x.2.2 2) (ha : σ.2.1 2 i 6 = some a ∨ x.2.1 2 i 8 = some a) : a ∈ x.2.2 2 ∧ v_s x a + v_ln σ a ≤ v_s x i := by
  obtain ⟨hSo, -⟩ := v_Sx h
  obtain ⟨n, hn⟩ := v_mem hi
  obtain ⟨n', q1, q2⟩ := hSo.2.2.1 n i hn a ha
  obtain ⟨m, hm, him⟩ := hSo.2.1 i hi
  have hbm := ((h.1.2.1.1 m hm).2 i him).2
  refine ⟨List.mem_of_getElem? q2, ?_⟩
  rw [(hSo.2.2.2.2.2 i hi).1]
  refine Nat.le_trans ?_ (v_lsN_ge h.1.1.2.2.1 (by rw [hbm]; exact hm))
  unfold v_rN
  rcases ha with ha | ha
  · rw [ha]; exact Nat.le_max_right _ _
  · rw [ha]
    refine Nat.le_trans ?_ (Nat.le_max_left _ _)
    show v_s x a + v_ln σ a ≤ v_s x a + v_ln σ a + _
    omega
theorem v_lateL {F : Nat → Nat} {d : Nat} (hd : d ≤ 10000) : ∀ (os : List Nat) (l : Nat), l < 1000000 → (∀ i ∈ os, x.1 2 i 11 = nI (F i) ∧ F i < 1000000) → ∃ M, b_lateL x (nI d) os (nI l) = nI M ∧ l ≤ M ∧ (∀ i ∈ os, F i ≤ M + d) ∧ (M = l ∨ ∃ i ∈ os, M + d = F i) := by
  intro os
  induction os with
  | nil => intro l _ _; exact ⟨l, rfl, Nat.le_refl _, fun i hi => absurd hi List.not_mem_nil, Or.inl rfl⟩
  | cons a os ih =>
    intro l hl h
    obtain ⟨h1, h2⟩ := h a List.mem_cons_self
    have hos := fun i hi => h i (List.mem_cons_of_mem _ hi)
    have hlt : (nI l < nI (F a) - nI d) ↔ (l : Int) < (F a : Int) - d := by
      rw [Int32.lt_iff_toInt_lt, nI_toInt (by omega), pk_sub_toInt (by omega) (by omega)]
    unfold b_lateL
    rw [h1]
    by_cases c : nI l < nI (F a) - nI d
    · have c2 := hlt.mp c
      rw [if_pos c, pk_sub (by omega)]
      obtain ⟨M, g1, g2, g3, g4⟩ := ih (F a - d) (by omega) hos
      refine ⟨M, g1, by omega, fun i hi => ?_, ?_⟩
      · rcases List.mem_cons.mp hi with rfl | hi
        · omega
        · exact g3 i hi
      · rcases g4 with g4 | ⟨i, hi, g4⟩
        · exact Or.inr ⟨a, List.mem_cons_self, by omega⟩
        · exact Or.inr ⟨i, List.mem_cons_of_mem _ hi, g4⟩
    · have c2 : ¬ ((l : Int) < (F a : Int) - d) := fun q => c (hlt.mpr q)
      rw [if_neg c]
      obtain ⟨M, g1, g2, g3, g4⟩ := ih l hl hos
      refine ⟨M, g1, g2, fun i hi => ?_, g4.imp id (fun ⟨i, hi, g4⟩ => ⟨i, List.mem_cons_of_mem _ hi, g4⟩)⟩
      rcases List.mem_cons.mp hi with rfl | hi
      · omega
      · exact g3 i hi
theorem v_job_pl (h : v_Inv σ x) {j k : Nat} (hj : j < b_nj σ) (hp : σ.1 0 j 3 = nI 1) (hk : k < b_np σ j) : v_op σ (4 * j + k) ∧ 4 * j + k ∈ x.2.2 2 := by
  have hp4 := (h.1.1.1.2.2.2.2 j hj).2
  have e : (4 * j + k) / 4 = j := by omega
  have hop : v_op σ (4 * j + k) := ⟨by omega, by rw [e]; omega⟩
  exact ⟨hop, v_pl_ord h hop (by rw [e]; exact hp)⟩
/-- in a job one finishes behind the other -/
theorem v_job_le (h : v_Inv σ x) {j : Nat} (hj : j < b_nj σ) (hp : σ.1 0 j 3 = nI 1) : ∀ (d k : Nat), k + d < b_np σ j → v_s x (4 * j + k) + v_ln σ (4 * j + k) ≤ v_s x (4 * j + (k + d)) + v_ln σ (4 * j + (k + d)) := by
  have hp4 := (h.1.1.1.2.2.2.2 j hj).2
  intro d
  induction d with
  | zero => intro k _; exact Nat.le_refl _
  | succ d ih =>
    intro k hk
    obtain ⟨o1, o2⟩ := v_job_pl h hj hp hk
    have e6 : σ.2.1 2 (4 * j + (k + (d + 1))) 6 = some (4 * j + (k + d)) := by
      rw [(h.1.1.2.1 _ o1).2.2.2.1, if_neg (by omega)]
      exact congrArg some (by omega)
    have := (v_ahead_le h o2 (Or.inl e6)).2
    have := ih k (by omega)
    omega
theorem v_pjl (h : v_Inv σ x) {j : Nat} (hj : j < b_nj σ) (c : ¬ σ.1 0 j 3 = 0) : σ.1 0 j 3 = nI 1 ∧ b_np σ j ≠ 0 := by
  rcases (h.1.1.2.2.2.2.1 j hj).2.2 with q | q
  · exact absurd q c
  · exact q
theorem s_late (h : v_Inv σ x) {a : Int32} (hX : v_cX x w) (hr : v_rA x w) : v_Ok (b_late σ x a) z_lateness (m_late σ w a) := by
  have hw := h.go hX hr
  have hj8 : b_nj σ ≤ 8 := h.1.1.1.2.2.2.1
  unfold b_late b_pj m_late
  rw [v_nj h]
  cases e : b_ix (b_nj σ) a with
  | none => exact ⟨hw.thr, m_thr_at, fun u hu => by cases hu⟩
  | some j =>
    obtain ⟨-, hj⟩ := v_ixe (by omega) e
    obtain ⟨e18, e20⟩ := h.2.2.1.2.2.2.2.2.2 j hj
    simp only []
    rw [e20]
    by_cases c : σ.1 0 j 3 = 0
    · rw [if_pos c, if_pos c]
      exact ⟨hw.thr, m_thr_at, fun u hu => by cases hu⟩
    · rw [if_neg c, if_neg c]
      refine ⟨hw.thr.wS, by rw [m_works_n (by omega)]; exact m_thr_at, fun u hu => ?_⟩
      cases hu
      obtain ⟨hp1, hnp⟩ := v_pjl h hj c
      obtain ⟨-, ⟨d, hd, hd2⟩, -⟩ := h.1.1.2.2.2.2.1 j hj
      have enp := h.2.2.1.2.2.1 j (by omega)
      rw [if_pos hj] at enp
      obtain ⟨hops, hp4⟩ := h.1.1.1.2.2.2.2 j hj
      obtain ⟨hSo, hS⟩ := v_Sx h
      have hF : ∀ i ∈ σ.2.2 (8 + j), x.1 2 i 11 = nI (v_s x i + v_ln σ i) ∧ v_s x i + v_ln σ i < 1000000 := fun i hi => by
        rw [hops, List.mem_range'_1] at hi
        have := (v_job_pl h hj hp1 (k := i - 4 * j) (by omega)).2
        rw [show 4 * j + (i - 4 * j) = i by omega] at this
        obtain ⟨q1, q2, q3, q4⟩ := hS i this
        have := (v_lnE h.1.1.2.1 q1).2.2
        exact ⟨q3, by omega⟩
      obtain ⟨M, g1, g2, g3, g4⟩ := v_lateL (x := x) (F := fun i => v_s x i + v_ln σ i) hd2 (σ.2.2 (8 + j)) 0 (by decide) hF
      have hlast := v_job_pl h hj hp1 (k := b_np σ j - 1) (by omega)
      have el : 4 * j + (b_np σ j - 1) = 4 * j + m_np σ j - 1 := by omega
      have hw2 := hw.thr (v := nI 0)
      obtain ⟨q1, q2, q3, q4⟩ := hS _ hlast.2
      have hln := v_lnE h.1.1.2.1 q1
      have efin : m_fin σ (m_wS σ (m_thr w (nI 0))) (4 * j + m_np σ j - 1) = nI (v_s x (4 * j + (b_np σ j - 1)) + v_ln σ (4 * j + (b_np σ j - 1))) := by
        rw [← el]
        unfold m_fin
        rw [(v_now hw2).2.1 _ (v_pl_ord hw2 q1 (by rw [show (4 * j + (b_np σ j - 1)) / 4 = j by omega]; exact hp1)), m_thr_n (by omega), hX.2.2 2 _ 10 (by omega) (by omega), q2, (h.2.2.1.2.2.2.1 _ q1).2.1, hln.1, nI_add]
      have hmem : 4 * j + (b_np σ j - 1) ∈ σ.2.2 (8 + j) := by rw [hops, List.mem_range'_1]; omega
      have hle := g3 _ hmem
      have hge : M = 0 ∨ M + d ≤ v_s x (4 * j + (b_np σ j - 1)) + v_ln σ (4 * j + (b_np σ j - 1)) := by
        rcases g4 with g4 | ⟨i, hi, g4⟩
        · exact Or.inl g4
        · rw [hops, List.mem_range'_1] at hi
          have := v_job_le h hj hp1 (b_np σ j - 1 - (i - 4 * j)) (i - 4 * j) (by omega)
          rw [show 4 * j + (i - 4 * j) = i by omega, show i - 4 * j + (b_np σ j - 1 - (i - 4 * j)) = b_np σ j - 1 by omega] at this
          exact Or.inr (by omega)
      show (if m_ltn σ w j ≤ 0 then nI 0 else m_ltn σ w j) = b_lateL x (σ.1 0 j 1) (σ.2.2 (8 + j)) (nI 0)
      unfold m_ltn
      rw [efin, e18, hd, g1]
      have hFb : v_s x (4 * j + (b_np σ j - 1)) + v_ln σ (4 * j + (b_np σ j - 1)) < 1000000 := by omega
      generalize v_s x (4 * j + (b_np σ j - 1)) + v_ln σ (4 * j + (b_np σ j - 1)) = F at hle hge hFb
      by_cases q : F ≤ d
      · rw [if_pos]
        · have : M = 0 := by omega
          rw [this]
        · rw [Int32.le_iff_toInt_le, pk_sub_toInt (by omega) (by omega)]
          show (F : Int) - d ≤ 0
          omega
      · rw [if_neg, pk_sub (by omega)]
        · congr 1
          omega
        · rw [Int32.le_iff_toInt_le, pk_sub_toInt (by omega) (by omega)]
          show ¬ (F : Int) - d ≤ 0
          omega
end VB

