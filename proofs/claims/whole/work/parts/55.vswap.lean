/-! ===== swap: one answer ===== -/
section VS2
variable {σ x y z w : bt_X}
theorem v_xc_l {m q n : Nat} : (b_xc y m q).2.2 n = if n = 4 + m then ((y.2.2 (4 + m)).set q ((y.2.2 (4 + m)).getD (q + 1) 0)).set (q + 1) ((y.2.2 (4 + m)).getD q 0) else y.2.2 n := v_nr_l
theorem v_xc_perm {R : List Nat} {q : Nat} (h : q + 1 < R.length) : ((R.set q (R.getD (q + 1) 0)).set (q + 1) (R.getD q 0)).Perm R := by
  have e1 : R.getD (q + 1) 0 = R[q + 1] := by rw [List.getD_eq_getElem?_getD, List.getElem?_eq_getElem h]; rfl
  have e2 : R.getD q 0 = R[q]'(by omega) := by rw [List.getD_eq_getElem?_getD, List.getElem?_eq_getElem (by omega)]; rfl
  rw [e1, e2]
  exact List.set_set_perm (by omega) h
theorem v_xc_back {R R2 : List Nat} {q : Nat} (h : q + 1 < R.length) (e : R2 = (R.set q (R.getD (q + 1) 0)).set (q + 1) (R.getD q 0)) : (R2.set q (R2.getD (q + 1) 0)).set (q + 1) (R2.getD q 0) = R := by
  have hl : R2.length = R.length := by rw [e, List.length_set, List.length_set]
  have e1 : R2.getD (q + 1) 0 = R.getD q 0 := by
    rw [List.getD_eq_getElem?_getD, e, List.getElem?_set_self (by rw [List.length_set]; exact h)]
    rfl
  have e2 : R2.getD q 0 = R.getD (q + 1) 0 := by
    rw [List.getD_eq_getElem?_getD, e, List.getElem?_set_ne (by omega), List.getElem?_set_self (by omega)]
    rfl
  rw [e1, e2]
  apply List.ext_getElem?
  intro n
  by_cases c : n = q + 1
  · subst c
    rw [List.getElem?_set_self (by rw [List.length_set]; omega), List.getD_eq_getElem?_getD, List.getElem?_eq_getElem h]
    rfl
  · rw [List.getElem?_set_ne (by omega)]
    by_cases d : n = q
    · subst d
      rw [List.getElem?_set_self (by omega), List.getD_eq_getElem?_getD, List.getElem?_eq_getElem (by omega)]
      rfl
    · rw [List.getElem?_set_ne (by omega), e, List.getElem?_set_ne (by omega), List.getElem?_set_ne (by omega)]
theorem v_xcW (hSt : b_St σ) (hW : v_W σ y) (hk : v_Lk σ y) {m q : Nat} (hm : m < b_nm σ) (hq : q + 1 < (y.2.2 (4 + m)).length) :
    v_W σ (b_xc y m q) ∧ v_Lk σ (b_xc y m q) ∧ ∀ m' i, i ∈ (b_xc y m q).2.2 (4 + m') ↔ i ∈ y.2.2 (4 + m') := by
  have hp := v_xc_perm hq
  have hmem : ∀ m' i, i ∈ (b_xc y m q).2.2 (4 + m') ↔ i ∈ y.2.2 (4 + m') := fun m' i => by
    rw [v_xc_l]
    by_cases e : m' = m
    · subst e; rw [if_pos rfl]; exact hp.mem_iff
    · rw [if_neg (by omega)]
  have hR : ∀ i ∈ ((y.2.2 (4 + m)).set q ((y.2.2 (4 + m)).getD (q + 1) 0)).set (q + 1) ((y.2.2 (4 + m)).getD q 0), v_op σ i ∧ b_m σ i = m := fun i hi => (hW.1 m hm).2 i (hp.mem_iff.mp hi)
  have hn := hp.symm.nodup (hW.1 m hm).1
  refine ⟨?_, ?_, hmem⟩
  · refine v_nr_W (m := m) hW hm hn hR ?_ (fun m' hm' i hi h0 => ?_)
    · refine Nat.le_trans (Nat.le_of_eq (b_cnt_ext (x := y) (fun m' _ => ?_))) hW.2.2.2
      rw [v_nr_l]
      by_cases e : 4 + m' = 4 + m
      · rw [if_pos e, e]; exact hp.length_eq
      · rw [if_neg e]
    · obtain ⟨m2, q1, q2⟩ := hW.2.2.1 m' hm' i ((hmem m' i).mp hi) h0
      exact ⟨m2, q1, (hmem m2 _).mpr q2⟩
  · exact v_nr_Lk hk hn (fun i hi => (hR i hi).1)
theorem v_xcRd (hSt : b_St σ) (h : v_Rd σ y z) {m q : Nat} (hm : m < b_nm σ) (hq : q + 1 < (y.2.2 (4 + m)).length) : v_Rd σ (b_xc y m q) (m_xc z m q) := by
  refine v_Rd_xc hSt h hm (a := (y.2.2 (4 + m)).getD q 0) (b := (y.2.2 (4 + m)).getD (q + 1) 0) ?_ ?_ ?_ (fun m' hm' => ?_)
  · rw [List.getD_eq_getElem?_getD, List.getElem?_eq_getElem (by omega)]; rfl
  · rw [List.getD_eq_getElem?_getD, List.getElem?_eq_getElem hq]; rfl
  · rw [v_xc_l, if_pos rfl]
  · rw [v_xc_l, if_neg (by omega)]
theorem m_xc_n {m q c i k : Nat} (h : ¬ (c = 8 ∧ i = 16)) : (m_xc z m q).1 c i k = z.1 c i k := by unfold m_xc; rw [b_gs_ne (by omega), b_gs_ne (by omega)]
theorem v_xc_1 {m q : Nat} : (b_xc y m q).1 = y.1 := v_nr_1
/-- where two can be exchanged -/
theorem v_swp_in {p : Int32} {r : Nat} (hr : r < 2 ^ 30) : m_in p (nI 0) (nI r - nI 2) = 0 ↔ (p < 0 ∨ ¬ p < nI r - nI 1) := by
  have e1 := pk_sub_toInt (a := r) (b := 1) hr (by decide)
  have e2 := pk_sub_toInt (a := r) (b := 2) hr (by decide)
  unfold m_in
  by_cases c : p < nI 0
  · rw [if_pos c]; exact ⟨fun _ => Or.inl c, fun _ => rfl⟩
  · rw [if_neg c]
    by_cases d : nI r - nI 2 < p
    · rw [if_pos d]
      refine ⟨fun _ => Or.inr (fun q => ?_), fun _ => rfl⟩
      rw [Int32.lt_iff_toInt_lt] at d q
      omega
    · rw [if_neg d]
      refine ⟨fun q => absurd q (by decide), fun q => ?_⟩
      rcases q with q | q
      · exact absurd q c
      · rw [Int32.lt_iff_toInt_lt] at d q
        omega
/-- a call's end is one of the class's, with the reference's numbers other -/
theorem v_IC.two {x2 : bt_X} (h : v_IC σ x) (hX : v_cX x w) (hX2 : v_cX w x2) : v_IC σ x2 := (h.congr v_cA.refl (hX.trans hX2))
theorem s_swap (h : v_Inv σ x) {a p : Int32} (hX : v_cX (b_swpF σ x a p).2.2 w) (hr : v_rA (b_swpF σ x a p).2.2 w) : v_Ok (b_swpF σ x a p) z_swap (m_swap (b_swpF σ x a p).2.1 w a p) := by
  have out : ∀ (_ : b_swpF σ x a p = (.inr b_IO, σ, x)) (_ : v_cX x w → v_rA x w → m_swap σ w a p = (nI 0, σ, m_thr w (nI 1))), v_Ok (b_swpF σ x a p) z_swap (m_swap (b_swpF σ x a p).2.1 w a p) := fun e1 e2 => by
    rw [e1] at hX hr ⊢
    rw [show m_swap ((Sum.inr b_IO, σ, x) : b_R).2.1 w a p = (nI 0, σ, m_thr w (nI 1)) from e2 hX hr]
    exact (h.go hX hr).thrOk rfl (fun u q => by cases q)
  have hnm := v_nm5 h
  cases e : b_ix (b_nm σ) a with
  | none => exact out (by unfold b_swpF; rw [e]) (fun _ _ => by unfold m_swap; rw [v_nm h, e])
  | some m =>
    obtain ⟨-, hm⟩ := v_ixe (by omega) e
    have hl : (x.2.2 (4 + m)).length ≤ 32 := v_len h.1.1.1 h.1.2.1 hm
    have ein := v_swp_in (p := p) (r := (x.2.2 (4 + m)).length) (by omega)
    have e15 : ∀ w : bt_X, v_cX x w → v_rA x w → w.1 8 15 m = nI (x.2.2 (4 + m)).length := fun w hX hr => by
      rw [(v_rl (h.go hX hr) hm).2, hX.2.1 _ (by omega)]
    by_cases c : p < 0
    · exact out (by unfold b_swpF; rw [e]; simp only []; rw [if_pos c]) (fun hX hr => by unfold m_swap; rw [v_nm h, e]; simp only []; rw [e15 w hX hr, if_pos (ein.mpr (Or.inl c))])
    · by_cases d : p < nI (x.2.2 (4 + m)).length - nI 1
      · have ein2 : ¬ m_in p (nI 0) (nI (x.2.2 (4 + m)).length - nI 2) = 0 := fun q => (ein.mp q).elim c (fun z => z d)
        have hq := (m_in_2 (by omega) ein2).2
        have hR := h.1.2
        obtain ⟨g1, g2, g3⟩ := v_xcW h.1.1.1 h.1.2.1 h.1.2.2.1 hm hq
        have hFin := v_all h.1.1.1 h.1.1.2.1 g1
        -- the reference, in whatever state the class leaves
        have hsame : ∀ w : bt_X, (∀ i k, i = 15 ∨ i = 16 → w.1 8 i k = x.1 8 i k) → v_Rd σ (b_xc x m (nN p)) (m_xc (m_thr w (nI 0)) m (nN p)) := fun w hw => by
          refine v_xcRd h.1.1.1 (h.2.2.2.ext (fun _ _ => rfl) (fun i k hi => ?_)) hm hq
          rw [m_thr_n (by omega), hw i k hi]
        have hsm := v_same h.1.1.1 h.1.1.2.1 h.1.1.2.2.1 h.1.1.2.2.2.1 h.2.2.1 g1 (hsame x (fun _ _ _ => rfl))
        by_cases f : (b_all σ (b_xc x m (nN p))).1 = 0
        · have eF : b_swpF σ x a p = (.inr b_IS, σ, (b_all σ (b_xc (b_all σ (b_xc x m (nN p))).2 m (nN p))).2) := by unfold b_swpF; rw [e]; simp only []; rw [if_neg c, if_pos d, if_pos f]
          rw [eF] at hX hr ⊢
          rw [show ((Sum.inr b_IS, σ, (b_all σ (b_xc (b_all σ (b_xc x m (nN p))).2 m (nN p))).2) : b_R).2.1 = σ from rfl]
          simp only [] at hX hr
          have erow : (b_all σ (b_xc x m (nN p))).2.2.2 (4 + m) = (b_xc x m (nN p)).2.2 (4 + m) := hFin.2.2 _ (by omega)
          have hq2 : nN p + 1 < ((b_all σ (b_xc x m (nN p))).2.2.2 (4 + m)).length := by
            rw [erow, v_xc_l, if_pos rfl, List.length_set, List.length_set]; exact hq
          have hk2 : v_Lk σ (b_all σ (b_xc x m (nN p))).2 := fun i hi => by rw [hFin.2.1]; exact g2 i hi
          obtain ⟨k1, k2, k3⟩ := v_xcW h.1.1.1 hFin.1.2.1 hk2 hm hq2
          have eback : ∀ m', m' < b_nm σ → (b_xc (b_all σ (b_xc x m (nN p))).2 m (nN p)).2.2 (4 + m') = x.2.2 (4 + m') := fun m' hm' => by
            rw [v_xc_l]
            by_cases em : m' = m
            · subst em
              rw [if_pos rfl]
              exact v_xc_back hq (by rw [erow, v_xc_l, if_pos rfl])
            · rw [if_neg (by omega), hFin.2.2 _ (by omega), v_xc_l, if_neg (by omega)]
          have hPl : v_Pl σ (b_xc (b_all σ (b_xc x m (nN p))).2 m (nN p)) := fun i hi => by
            rw [← h.1.2.2.2.1 i hi]
            constructor
            · rintro ⟨m', q1, q2⟩; exact ⟨m', q1, by rw [← eback m' q1]; exact q2⟩
            · rintro ⟨m', q1, q2⟩; exact ⟨m', q1, by rw [eback m' q1]; exact q2⟩
          obtain ⟨IC, -⟩ := v_after h.1.1 k1 k2 hPl ⟨_, v_sub_Rk h ⟨k1.1, k1.2.1⟩ (fun m' hm' => by rw [eback m' hm']; exact List.Sublist.refl _) k1.2.2.1⟩
          have hw15 : ∀ i k, i = 15 ∨ i = 16 → w.1 8 i k = x.1 8 i k := fun i k hi => by
            rw [hr 8 i k (by omega), v_all_n (by omega), v_xc_1, v_all_n (by omega), v_xc_1]
          have hw0 := hsame w hw15
          have hsw := v_same h.1.1.1 h.1.1.2.1 h.1.1.2.2.1 h.1.1.2.2.2.1 h.2.2.1 g1 hw0
          have ems : m_swap σ w a p = (nI 0, σ, m_thr (m_xc (m_wS σ (m_xc (m_thr w (nI 0)) m (nN p))) m (nN p)) (nI 2)) := by
            unfold m_swap
            rw [v_nm h, e]
            simp only []
            rw [show w.1 8 15 m = nI (x.2.2 (4 + m)).length by rw [hw15 15 m (Or.inl rfl), (v_rl h hm).2], if_neg ein2, if_pos (hsw.1.trans f)]
          rw [ems]
          have hRd1 : v_Rd σ (b_all σ (b_xc x m (nN p))).2 (m_wS σ (m_xc (m_thr w (nI 0)) m (nN p))) := hw0.ext (fun m' _ => hFin.2.2 _ (by omega)) (fun i k hi => m_works_n (by omega))
          have hRd2 := v_xcRd h.1.1.1 hRd1 hm hq2
          have hcX : v_cX w (m_xc (m_wS σ (m_xc (m_thr w (nI 0)) m (nN p))) m (nN p)) := by
            refine ⟨?_, fun n _ => ?_, fun c i k hc hk => ?_⟩
            · show (m_wS σ (m_xc (m_thr w (nI 0)) m (nN p))).2.1 = _
              rw [v_wS_2]; rfl
            · show (m_wS σ (m_xc (m_thr w (nI 0)) m (nN p))).2.2 n = _
              rw [v_wS_2]; rfl
            · rw [m_xc_n (by omega), m_works_n (by omega), m_xc_n (by omega), m_thr_n (by omega)]
          have I : v_Inv σ (m_xc (m_wS σ (m_xc (m_thr w (nI 0)) m (nN p))) m (nN p)) := ⟨IC.two hX hcX, h.2.1, h.2.2.1, hRd2.ext (fun m' _ => by
            rw [hcX.2.1 _ (by omega), hX.2.1 _ (by omega), v_all_rows h.1.1 k1 _ (by omega)]) (fun _ _ _ => rfl)⟩
          exact I.thrOk rfl (fun u q => by cases q)
        · have eF : b_swpF σ x a p = (.inl (some (.int ((b_all σ (b_xc x m (nN p))).2.1 4 0 5))), σ, (b_all σ (b_xc x m (nN p))).2) := by unfold b_swpF; rw [e]; simp only []; rw [if_neg c, if_pos d, if_neg f]
          rw [eF] at hX hr ⊢
          simp only [] at hX hr
          have hfull : v_full σ (b_all σ (b_xc x m (nN p))).2 := by
            rcases hFin.1.2.2 with ⟨-, q⟩ | ⟨q, -⟩
            · exact q
            · exact absurd q f
          have IC : v_IC σ (b_all σ (b_xc x m (nN p))).2 := ⟨h.1.1, hFin.1.2.1, fun i hi => by rw [hFin.2.1]; exact g2 i hi, fun i hi => by
            rw [← h.1.2.2.2.1 i hi]
            constructor
            · rintro ⟨m', q1, q2⟩; exact ⟨m', q1, (g3 m' i).mp (by rw [← hFin.2.2 _ (by omega)]; exact q2)⟩
            · rintro ⟨m', q1, q2⟩; exact ⟨m', q1, by rw [hFin.2.2 _ (by omega)]; exact (g3 m' i).mpr q2⟩, hFin.1.1, hfull⟩
          have hw15 : ∀ i k, i = 15 ∨ i = 16 → w.1 8 i k = x.1 8 i k := fun i k hi => by
            rw [hr 8 i k (by omega), v_all_n (by omega), v_xc_1]
          have hw0 := hsame w hw15
          have hsw := v_same h.1.1.1 h.1.1.2.1 h.1.1.2.2.1 h.1.1.2.2.2.1 h.2.2.1 g1 hw0
          have ems : m_swap σ w a p = (m_span σ (m_wS σ (m_xc (m_thr w (nI 0)) m (nN p))), σ, m_wS σ (m_xc (m_thr w (nI 0)) m (nN p))) := by
            unfold m_swap
            rw [v_nm h, e]
            simp only []
            rw [show w.1 8 15 m = nI (x.2.2 (4 + m)).length by rw [hw15 15 m (Or.inl rfl), (v_rl h hm).2], if_neg ein2, if_neg (fun q => f (hsw.1.symm.trans q))]
          rw [show m_swap ((Sum.inl (some (Value.int ((b_all σ (b_xc x m (nN p))).2.1 4 0 5))), σ, (b_all σ (b_xc x m (nN p))).2) : b_R).2.1 w a p = _ from ems]
          have hcX : v_cX w (m_wS σ (m_xc (m_thr w (nI 0)) m (nN p))) := by
            refine ⟨by rw [v_wS_2]; rfl, fun n _ => by rw [v_wS_2]; rfl, fun c i k hc hk => ?_⟩
            rw [m_works_n (by omega), m_xc_n (by omega), m_thr_n (by omega)]
          refine ⟨⟨IC.two hX hcX, h.2.1, h.2.2.1, hw0.ext (fun m' _ => ?_) (fun i k hi => m_works_n (by omega))⟩, ?_, fun u hu => ?_⟩
          · rw [hcX.2.1 _ (by omega), hX.2.1 _ (by omega)]
            exact hFin.2.2 _ (by omega)
          · show (m_wS σ (m_xc (m_thr w (nI 0)) m (nN p))).1 6 0 0 = nI 0
            rw [m_works_n (by omega), m_xc_n (by omega)]
            exact m_thr_at
          · cases hu
            exact (hsw.2 f).2
      · exact out (by unfold b_swpF; rw [e]; simp only []; rw [if_neg c, if_neg d]) (fun hX hr => by unfold m_swap; rw [v_nm h, e]; simp only []; rw [e15 w hX hr, if_pos (ein.mpr (Or.inr d))])
end VS2
