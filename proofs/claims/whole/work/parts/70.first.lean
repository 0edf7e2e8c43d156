/-! ===== the law from its entry ===== -/
section VFI
variable {G : bp_X}
theorem l_V1 {q5 qs q0 q1 q3 qa q2 q4 c i : Nat} (h : bq_V (l_w1 q5 qs q0 q1 q3 qa q2 q4) c i) : (3 ≤ c ∧ c ≤ 5 ∧ i = 0) ∨ (c = 7 ∧ i < 4) ∨ (c = 8 ∧ i < 5) := by
  have h : (l_w1 q5 qs q0 q1 q3 qa q2 q4).1 c i := h
  simp only [l_w1, bq_n, bq_f, b_iB, b_iH, b_iH1, b_iH2, b_iS, bq_gd, l_w0, false_or] at h
  omega
theorem l_us1 {q5 qs q0 q1 q3 qa q2 q4 : Nat} : bq_us (l_w1 q5 qs q0 q1 q3 qa q2 q4) = 388 := rfl
theorem l_usA {q : Nat → Nat} : ∀ (l : List (Nat × Nat × Nat)) (w : bq_O), bq_us (m_iAs q w l) = bq_us w + (l.map (fun z => 1 + z.2.2)).sum := by
  intro l
  induction l with
  | nil => intro w; rfl
  | cons z l ih =>
    intro w
    refine (ih (m_iA q w z)).trans ?_
    have e : bq_us (m_iA q w z) = bq_us w + (1 + z.2.2) := rfl
    rw [e, List.map_cons, List.sum_cons]
    omega
theorem l_us2 {w : bq_O} {q6 : Nat} {q : Nat → Nat} : bq_us (l_w2 w q6 q) = bq_us w + 26 + 1037 := by
  have e : (m_aL.map (fun z => 1 + z.2.2)).sum = 1037 := by decide
  show bq_us (m_iAs q (bq_n w 6 0 q6 (bq_born tyX6) (0, 0) 26) m_aL) = _
  rw [l_usA, e]
  rfl
set_option maxRecDepth 100000 in
set_option maxHeartbeats 1000000 in
theorem l_start (hn : bp_sL G ≤ 3072) : bq_W G mL_law 13 0 [(0, .ref (bp_sb G))] [] l_w0 (fun o _ => o = .inl (some (.int (nI 1)))) := by
  refine bq_newo (c := 5) (i := 0) dL_law_0 nw_L_8 (by decide) (fun h => h) (Nat.le_of_ble_eq_true rfl) (fun q5 => ?_)
  refine bq_dup dL_law_3 rfl ?_
  refine bq_callIp (d' := 7) dL_law_4 ml_L_81 (i_bore (w := bq_n l_w0 5 0 q5 (bq_born tyX5) (0, 0) (1 + 1)) (fun c i hc hV => Or.elim hV (fun h => h) (fun e => hc e.1)) (Or.inr ⟨rfl, rfl⟩) (Nat.le_of_ble_eq_true rfl)) (by decide) (Nat.le_of_ble_eq_true rfl) (Nat.le_of_ble_eq_true rfl) rfl (fun v w2 hp => ?_)
  obtain ⟨rfl, qs, q0, q1, q3, qa, q2, q4, rfl⟩ := hp
  rw [bq_n_ad]
  refine bq_astore_n (i := 1) dL_law_7 (by decide) ?_
  show bq_W G mL_law 13 8 _ [] (l_w1 q5 qs q0 q1 q3 qa q2 q4) _
  have hV1 := @l_V1 q5 qs q0 q1 q3 qa q2 q4
  have hu1 := @l_us1 q5 qs q0 q1 q3 qa q2 q4
  have hz := fun q6 q q9 => @l_zV q5 qs q0 q1 q3 qa q2 q4 q6 q9 q
  have hv := fun q6 q q9 => @l_val q5 qs q0 q1 q3 qa q2 q4 q6 q9 q
  have ha := fun q6 q q9 => @l_arr q5 qs q0 q1 q3 qa q2 q4 q6 q9 q
  have hl := fun q6 q q9 => @l_lst q5 qs q0 q1 q3 qa q2 q4 q6 q9 q
  have e5 : ∀ (q6 : Nat) (q : Nat → Nat) (q9 : Nat), bt_ad (l_al (l_w3 (l_w2 (l_w1 q5 qs q0 q1 q3 qa q2 q4) q6 q) q9)) 5 0 = q5 := fun _ _ _ => rfl
  generalize l_w1 q5 qs q0 q1 q3 qa q2 q4 = w1 at hV1 hu1 hz hv ha hl e5 ⊢
  refine bq_newo (c := 6) (i := 0) dL_law_8 nw_L_82 (by decide) (fun h => by have := hV1 h; omega) (by rw [hu1]; exact Nat.le_of_ble_eq_true rfl) (fun q6 => ?_)
  refine bq_dup dL_law_11 rfl ?_
  refine bq_callIp (d' := 5) dL_law_12 ml_L_84 (i_model (w := bq_n w1 6 0 q6 (bq_born tyX6) (0, 0) (1 + 25)) (fun i hi hV => by rcases hV with hV | ⟨e, -⟩; (have := hV1 hV; omega); omega) (Or.inr ⟨rfl, rfl⟩) (by show bq_us w1 + (1 + 25) + 1100 ≤ bp_max; rw [hu1]; exact Nat.le_of_ble_eq_true rfl)) (by decide) (Nat.le_of_ble_eq_true rfl) (Nat.le_of_ble_eq_true rfl) rfl (fun v w2 hp => ?_)
  obtain ⟨rfl, q, rfl⟩ := hp
  rw [bq_n_ad]
  refine bq_astore_n (i := 2) dL_law_15 (by decide) ?_
  show bq_W G mL_law 13 16 _ [] (l_w2 w1 q6 q) _
  have hu2 : bq_us (l_w2 w1 q6 q) = 388 + 26 + 1037 := by rw [l_us2, hu1]
  have hV2 : ¬ bq_V (l_w2 w1 q6 q) 8 5 := fun h => by
    have h : bq_V (m_iAs q (bq_n w1 6 0 q6 (bq_born tyX6) (0, 0) 26) m_aL) 8 5 := h
    rcases (m_iAs_V m_aL _ 8 5).mp h with h | ⟨-, z, -, h⟩
    · rcases h with h | ⟨h, -⟩
      · have := hV1 h; omega
      · omega
    · omega
  have e6 : ∀ q9 : Nat, bt_ad (l_al (l_w3 (l_w2 w1 q6 q) q9)) 6 0 = q6 := fun q9 => by
    show (if 6 = 8 ∧ 0 = 5 then q9 else bq_ad (m_iAs q (bq_n w1 6 0 q6 (bq_born tyX6) (0, 0) 26) m_aL) 6 0) = q6
    rw [if_neg (by omega), (m_iAs_no m_aL _ 6 0 (fun e => by omega)).1, bq_n_ad]
  have e9 : ∀ q9 : Nat, bt_ad (l_al (l_w3 (l_w2 w1 q6 q) q9)) 8 5 = q9 := fun q9 => rfl
  have hz := hz q6 q
  have hv := hv q6 q
  have ha := ha q6 q
  have hl := hl q6 q
  have e5 := e5 q6 q
  generalize l_w2 w1 q6 q = w2 at hu2 hV2 e6 e9 hz hv ha hl e5 ⊢
  refine bq_iconst (v := nI 1) dL_law_16 (by decide) ?_
  refine bq_newa (ti := 2) (N := 1) (i := 5) dL_law_17 (by decide) rfl aw_2 rfl (by decide) hV2 (by rw [hu2]; exact Nat.le_of_ble_eq_true rfl) (fun q9 => ?_)
  rw [bq_n_ad]
  refine bq_astore_n (i := 3) dL_law_19 (by decide) ?_
  refine bq_iconst (v := nI 0) dL_law_20 (by decide) ?_
  refine bq_istore (i := 4) dL_law_21 (by decide) ?_
  show bq_W G mL_law 13 23 _ [] (l_w3 w2 q9) _
  have hu3 : bt_us (l_al (l_w3 w2 q9)) = 388 + 26 + 1037 + 2 := by
    show bq_us w2 + 2 = _
    rw [hu2]
  have K := l_loop hn (bp_sL G / 6) 0 (l_al (l_w3 w2 q9)) l_z l_z (by omega) (by omega) (hz q9) l_Inv (by rw [hu3]; show _ ≤ 600000; omega)
  rw [e5 q9, e6 q9, e9 q9] at K
  refine bq_conv (v2 := bt_v (l_al (l_w3 w2 q9)) l_z l_z) (ls2 := bt_l l_z l_z) (hv q9) (ha q9) (hl q9) ?_
  exact bq_lvs (lv' := [(0, .ref (bp_sb G)), (1, .ref q5), (2, .ref q6), (3, .ref q9), (4, .int (nI 0))]) ⟨rfl, rfl, rfl, rfl, rfl, trivial⟩ K
end VFI
