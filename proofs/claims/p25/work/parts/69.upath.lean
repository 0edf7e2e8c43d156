/-! ===== the law: isPath ===== -/
section UPA
variable {α : bt_A} {σ x : bt_X} {G : bp_X}
set_option maxRecDepth 100000 in
set_option maxHeartbeats 1000000 in
theorem u_path_l (hV : z_V α σ) (h : v_Inv σ x) (hL : u_L σ x) {P A : Nat} (hP : x.1 4 0 5 = nI P) (hroom : bt_us α + 110 ≤ bp_max) : ∀ (n k : Nat) (y : bt_X) (b : Int32), k + n = (u_pth σ x).length → u_R x y → k ≤ (u_pth σ x).length →
    (k = 0 → b = (-1 : Int32)) → (∀ a, 0 < k → (u_pth σ x)[(u_pth σ x).length - k]? = some a → b = nI (u_F σ x a)) →
    bq_W G mL_isPath 9 47 [(0, .ref (bt_ad α 5 0)), (1, .ref (bt_ad α 8 38)), (2, .int (nI P)), (3, .int (nI A)), (4, .int (nI (u_pth σ x).length)), (5, .int (b)), (6, .int (nI 1)), (7, .int (nI k))] [] (bt α σ y) (fun o w' => o = .inl (some (.int (nI 1))) ∧ ∃ x', u_R x x' ∧ w' = bt α σ x') := by
  obtain ⟨s1, s2, s3, s4, s5⟩ := u_pth_s h
  have h32 := (v_Sx h).1.2.2.2.2.1
  intro n
  induction n with
  | zero =>
    intro k y b hk r hkl h0 hs
    rcases Nat.eq_zero_or_pos (u_pth σ x).length with hn0 | hn0
    · refine bq_iload (i := 7) dL_isPath_47 rfl ?_
      refine bq_iload (i := 4) dL_isPath_49 rfl ?_
      refine bq_icmp_ge (tgt := 140) dL_isPath_51 (by decide) (fun c_51 => ?_) (fun z9_ => absurd (nI_le (by omega) (by omega)) z9_)
      refine bq_iload (i := 6) dL_isPath_140 rfl ?_
      refine bq_if_eq (tgt := 160) dL_isPath_142 (by decide) (fun z9_ => absurd z9_ (show ¬ nI 1 = 0 by decide)) (fun c_142 => ?_)
      refine bq_iload (i := 4) dL_isPath_145 rfl ?_
      refine bq_if_eq (tgt := 156) dL_isPath_147 (by decide) (fun c_147 => ?_) (fun z9_ => absurd (show nI (u_pth σ x).length = 0 by rw [hn0]; rfl) z9_)
      refine bq_iconst (v := (nI 1)) dL_isPath_156 (by decide) ?_
      refine bq_goto (tgt := 161) dL_isPath_157 (by decide) ?_
      exact bq_iret dL_isPath_161 rfl (by first | rfl | decide) ⟨rfl, y, r, rfl⟩
    · have hbP : b = nI P := by
        obtain ⟨a, ha⟩ : ∃ a, (u_pth σ x)[0]? = some a := ⟨_, List.getElem?_eq_getElem hn0⟩
        rw [hs a (by omega) (by rw [show (u_pth σ x).length - k = 0 by omega]; exact ha), s4 a ha, hP]
      refine bq_iload (i := 7) dL_isPath_47 rfl ?_
      refine bq_iload (i := 4) dL_isPath_49 rfl ?_
      refine bq_icmp_ge (tgt := 140) dL_isPath_51 (by decide) (fun c_51 => ?_) (fun z9_ => absurd (nI_le (by omega) (by omega)) z9_)
      refine bq_iload (i := 6) dL_isPath_140 rfl ?_
      refine bq_if_eq (tgt := 160) dL_isPath_142 (by decide) (fun z9_ => absurd z9_ (show ¬ nI 1 = 0 by decide)) (fun c_142 => ?_)
      refine bq_iload (i := 4) dL_isPath_145 rfl ?_
      refine bq_if_eq (tgt := 156) dL_isPath_147 (by decide) (fun z9_ => absurd z9_ (nI_ne0 hn0 (by omega))) (fun c_147 => ?_)
      refine bq_iload (i := 5) dL_isPath_150 rfl ?_
      refine bq_iload_n (i := 2) dL_isPath_152 rfl ?_
      refine bq_icmp_ne (tgt := 160) dL_isPath_153 (by decide) (fun z9_ => absurd hbP z9_) (fun c_153 => ?_)
      refine bq_iconst (v := (nI 1)) dL_isPath_156 (by decide) ?_
      refine bq_goto (tgt := 161) dL_isPath_157 (by decide) ?_
      exact bq_iret dL_isPath_161 rfl (by first | rfl | decide) ⟨rfl, y, r, rfl⟩
  | succ n ih =>
    intro k y b hk r hkl h0 hs
    have hlt : k < (u_pth σ x).length := by omega
    have hy := h.u r
    have ep : u_pth σ y = u_pth σ x := u_pth_R r
    obtain ⟨i, hi⟩ : ∃ i, (u_pth σ x)[(u_pth σ x).length - 1 - k]? = some i := ⟨_, List.getElem?_eq_getElem (by omega)⟩
    have him := s1 i (List.mem_of_getElem? hi)
    have hf := u_F_b h him
    have hop := hf.2.2.2.2.2
    have h8 := u_nj8 h
    have hj := hop.1
    have hk4 := hop.2
    have hp := ((u_PL_op h).mp ((u_PL_ord h).mpr him)).2
    have e4 : 4 * (i / 4) + i % 4 = i := by omega
    obtain ⟨c, hc⟩ : ∃ c, c = 10 * (i / 4) + i % 4 := ⟨_, rfl⟩
    have e1 : nI c / nI 10 = nI (i / 4) := by rw [pk_div (by omega) (by omega) (by omega)]; exact congrArg nI (by omega)
    have e2 : nI c - nI c / nI 10 * nI 10 = nI (i % 4) := by rw [pk_rem (by omega) (by omega) (by omega)]; exact congrArg nI (by omega)
    have hr1 : u_R x (b_path σ y) := r.trans (u_pathR hy)
    have h1 := h.u hr1
    have es : v_s (b_path σ y) i = v_s x i := hr1.s
    have hr2 : u_R x (b_lat σ (b_path σ y)) := hr1.trans (u_lat h1)
    have e38 : (b_lat σ (b_path σ y)).1 8 38 i = nI (v_ln σ i) := by rw [hr2.arr (by omega), hL.2.2.2.1 i hop]; exact hf.2.2.2.2.1
    obtain ⟨d, hd, hsl⟩ := t_slk (G := G) hV h1 hj hk4 hp hroom
    have hb : ¬ nI (v_s x i) < b := by
      rcases Nat.eq_zero_or_pos k with q | q
      · rw [h0 q]
        exact fun z => nI_pos (show v_s x i < 2 ^ 31 by omega) (Int32.lt_trans z (by decide))
      · obtain ⟨a, ha⟩ : ∃ a, (u_pth σ x)[(u_pth σ x).length - k]? = some a := ⟨_, List.getElem?_eq_getElem (by omega)⟩
        rw [hs a q ha]
        have := s3 ((u_pth σ x).length - 1 - k) i a hi (by rw [show (u_pth σ x).length - 1 - k + 1 = (u_pth σ x).length - k by omega]; exact ha)
        exact nI_nlt this (by omega)
    refine bq_iload (i := 7) dL_isPath_47 rfl ?_
    refine bq_iload (i := 4) dL_isPath_49 rfl ?_
    refine bq_icmp_ge (tgt := 140) dL_isPath_51 (by decide) (fun z9_ => absurd z9_ (nI_ge hlt (by omega))) (fun c_51 => ?_)
    refine bq_iload (i := 6) dL_isPath_54 rfl ?_
    refine bq_if_eq (tgt := 140) dL_isPath_56 (by decide) (fun z9_ => absurd z9_ (show ¬ nI 1 = 0 by decide)) (fun c_56 => ?_)
    refine bq_aload_n (i := 0) dL_isPath_59 rfl ?_
    refine bq_iload (i := 7) dL_isPath_60 rfl ?_
    refine bt_callVr (c := 5) (i := 0) dL_isPath_62 rfl ml_L_37 (by first | exact hV.v5 | assumption | exact J.v3 | exact J.v4 | exact J.v5 | exact J.v6 | exact J.l0 | exact J.l1 | exact J.l2 | exact J.l3 | exact J.row (by assumption) | exact J.ops (by assumption) | exact J.job (by assumption)) (by decide) (t_crAt hV hy (by rw [ep]; exact hlt) (by rw [ep]; exact hi) hroom) (by decide) (by decide) (Nat.le_of_ble_eq_true rfl) rfl ?_
    rw [← hc]
    refine bq_istore (i := 8) dL_isPath_65 (by decide) ?_
    refine bq_aload_n (i := 0) dL_isPath_67 rfl ?_
    refine bq_iload (i := 8) dL_isPath_68 rfl ?_
    refine bq_bipush (v := (nI 10)) dL_isPath_70 (by decide) ?_
    refine bq_idiv dL_isPath_72 (by decide) ?_
    rw [e1]
    refine bq_iload (i := 8) dL_isPath_73 rfl ?_
    refine bq_bipush (v := (nI 10)) dL_isPath_75 (by decide) ?_
    refine bq_irem dL_isPath_77 (by decide) ?_
    rw [e2]
    refine bt_callVr (c := 5) (i := 0) dL_isPath_78 rfl ml_L_8 (by first | exact hV.v5 | assumption | exact J.v3 | exact J.v4 | exact J.v5 | exact J.v6 | exact J.l0 | exact J.l1 | exact J.l2 | exact J.l3 | exact J.row (by assumption) | exact J.ops (by assumption) | exact J.job (by assumption)) (by decide) (t_st hV h1 hj hk4 hp hroom) (by decide) (by decide) (Nat.le_of_ble_eq_true rfl) rfl ?_
    rw [e4, es]
    refine bq_istore (i := 9) dL_isPath_81 (by decide) ?_
    refine bq_iload (i := 9) dL_isPath_83 rfl ?_
    refine bq_iload (i := 5) dL_isPath_85 rfl ?_
    refine bq_icmp_lt (tgt := 111) dL_isPath_87 (by decide) (fun z9_ => absurd z9_ hb) (fun c_87 => ?_)
    refine bq_aload_n (i := 0) dL_isPath_90 rfl ?_
    refine bq_iload (i := 8) dL_isPath_91 rfl ?_
    refine bq_bipush (v := (nI 10)) dL_isPath_93 (by decide) ?_
    refine bq_idiv dL_isPath_95 (by decide) ?_
    rw [e1]
    refine bq_iload (i := 8) dL_isPath_96 rfl ?_
    refine bq_bipush (v := (nI 10)) dL_isPath_98 (by decide) ?_
    refine bq_irem dL_isPath_100 (by decide) ?_
    rw [e2]
    refine bt_callVr (c := 5) (i := 0) dL_isPath_101 rfl ml_L_17 (by first | exact hV.v5 | assumption | exact J.v3 | exact J.v4 | exact J.v5 | exact J.v6 | exact J.l0 | exact J.l1 | exact J.l2 | exact J.l3 | exact J.row (by assumption) | exact J.ops (by assumption) | exact J.job (by assumption)) (by decide) (hsl) (by decide) (by decide) (Nat.le_of_ble_eq_true rfl) rfl ?_
    refine bq_if_lt (tgt := 111) dL_isPath_104 (by decide) (fun z9_ => absurd z9_ (nI_pos (by omega))) (fun c_104 => ?_)
    refine bq_iconst (v := (nI 1)) dL_isPath_107 (by decide) ?_
    refine bq_goto (tgt := 112) dL_isPath_108 (by decide) ?_
    refine bq_istore (i := 6) dL_isPath_112 (by decide) ?_
    refine bq_iload (i := 9) dL_isPath_114 rfl ?_
    refine bq_aload_n (i := 1) dL_isPath_116 rfl ?_
    refine bq_iconst (v := (nI 4)) dL_isPath_117 (by decide) ?_
    refine bq_iload (i := 8) dL_isPath_118 rfl ?_
    refine bq_bipush (v := (nI 10)) dL_isPath_120 (by decide) ?_
    refine bq_idiv dL_isPath_122 (by decide) ?_
    rw [e1]
    refine bq_imul dL_isPath_123 ?_
    rw [pk_mul]
    refine bq_iload (i := 8) dL_isPath_124 rfl ?_
    refine bq_bipush (v := (nI 10)) dL_isPath_126 (by decide) ?_
    refine bq_irem dL_isPath_128 (by decide) ?_
    rw [e2]
    refine bq_iadd dL_isPath_129 ?_
    rw [nI_add, e4]
    refine bt_iald0 (n := 38) (j := i) dL_isPath_130 hV.a38 rfl (by omega) (by decide) rfl ?_
    rw [e38]
    refine bq_iadd dL_isPath_131 ?_
    rw [nI_add]
    refine bq_istore (i := 5) dL_isPath_132 (by decide) ?_
    refine bq_iinc dL_isPath_134 rfl (by decide) (by first | exact bp_inc _ | rfl) ?_
    refine bq_goto (tgt := 47) dL_isPath_137 (by decide) ?_
    refine bq_lvs (lv' := [(0, .ref (bt_ad α 5 0)), (1, .ref (bt_ad α 8 38)), (2, .int (nI P)), (3, .int (nI A)), (4, .int (nI (u_pth σ x).length)), (5, .int (nI (v_s x i + v_ln σ i))), (6, .int (nI 1)), (7, .int (nI (k + 1)))]) ⟨rfl, rfl, rfl, rfl, rfl, rfl, rfl, rfl, trivial⟩ ?_
    exact ih (k + 1) (b_lat σ (b_path σ y)) _ (by omega) hr2 (by omega) (fun q => absurd q (by omega)) (fun a _ ha => by
      rw [show (u_pth σ x).length - (k + 1) = (u_pth σ x).length - 1 - k by omega, hi] at ha
      cases ha
      rfl)
set_option maxRecDepth 100000 in
set_option maxHeartbeats 1000000 in
theorem u_isPath (hV : z_V α σ) (h : v_Inv σ x) (hL : u_L σ x) {P A : Nat} (hP : x.1 4 0 5 = nI P) (hA : A = (x.2.2 2).length) (hroom : bt_us α + 110 ≤ bp_max) :
    bq_S G mL_isPath 9 [.ref (bt_ad α 5 0), .ref (bt_ad α 8 38), .int (nI P), .int (nI A)] (bt α σ x) (fun o w' => o = .inl (some (.int (nI 1))) ∧ ∃ x', u_R x x' ∧ w' = bt α σ x') := by
  obtain ⟨s1, s2, s3, s4, s5⟩ := u_pth_s h
  have h32 := (v_Sx h).1.2.2.2.2.1
  have hnA : (u_pth σ x).length ≤ A := by omega
  refine bq_ofW (by decide +kernel) rfl (Nat.le_of_ble_eq_true rfl) ?_
  rcases Nat.eq_zero_or_pos (u_pth σ x).length with hn0 | hn0
  · have hA0 : A = 0 := by have := s5 hn0; omega
    refine bq_aload_n (i := 0) dL_isPath_0 rfl ?_
    refine bt_callVr (c := 5) (i := 0) dL_isPath_1 rfl ml_L_34 (by first | exact hV.v5 | assumption | exact J.v3 | exact J.v4 | exact J.v5 | exact J.v6 | exact J.l0 | exact J.l1 | exact J.l2 | exact J.l3 | exact J.row (by assumption) | exact J.ops (by assumption) | exact J.job (by assumption)) (by decide) (t_crit hV h hroom) (by decide) (by decide) (Nat.le_of_ble_eq_true rfl) rfl ?_
    refine bq_istore (i := 4) dL_isPath_4 (by decide) ?_
    refine bq_iconst (v := (-1 : Int32)) dL_isPath_6 (by decide) ?_
    refine bq_istore (i := 5) dL_isPath_7 (by decide) ?_
    refine bq_iload (i := 4) dL_isPath_9 rfl ?_
    refine bq_iload_n (i := 3) dL_isPath_11 rfl ?_
    refine bq_icmp_gt (tgt := 41) dL_isPath_12 (by decide) (fun z9_ => absurd z9_ (nI_nlt hnA (by omega))) (fun c_12 => ?_)
    refine bq_iload (i := 4) dL_isPath_15 rfl ?_
    refine bq_if_le (tgt := 24) dL_isPath_17 (by decide) (fun c_17 => ?_) (fun z9_ => absurd (show nI (u_pth σ x).length ≤ 0 by rw [hn0]; decide) z9_)
    refine bq_iconst (v := (nI 0)) dL_isPath_24 (by decide) ?_
    refine bq_iload_n (i := 3) dL_isPath_25 rfl ?_
    refine bq_if_le (tgt := 33) dL_isPath_26 (by decide) (fun c_26 => ?_) (fun z9_ => absurd (show nI A ≤ 0 by rw [hA0]; decide) z9_)
    refine bq_iconst (v := (nI 0)) dL_isPath_33 (by decide) ?_
    refine bq_icmp_ne (tgt := 41) dL_isPath_34 (by decide) (fun z9_ => absurd rfl z9_) (fun c_34 => ?_)
    refine bq_iconst (v := (nI 1)) dL_isPath_37 (by decide) ?_
    refine bq_goto (tgt := 42) dL_isPath_38 (by decide) ?_
    refine bq_istore (i := 6) dL_isPath_42 (by decide) ?_
    refine bq_iconst (v := (nI 0)) dL_isPath_44 (by decide) ?_
    refine bq_istore (i := 7) dL_isPath_45 (by decide) ?_
    refine bq_lvs (lv' := [(0, .ref (bt_ad α 5 0)), (1, .ref (bt_ad α 8 38)), (2, .int (nI P)), (3, .int (nI A)), (4, .int (nI (u_pth σ x).length)), (5, .int ((-1 : Int32))), (6, .int (nI 1)), (7, .int (nI 0))]) ⟨rfl, rfl, rfl, rfl, rfl, rfl, rfl, rfl, trivial⟩ ?_
    exact u_path_l hV h hL hP hroom _ 0 _ _ (Nat.zero_add _) (u_pathR h) (Nat.zero_le _) (fun _ => rfl) (fun a q => absurd q (Nat.lt_irrefl _))
  · refine bq_aload_n (i := 0) dL_isPath_0 rfl ?_
    refine bt_callVr (c := 5) (i := 0) dL_isPath_1 rfl ml_L_34 (by first | exact hV.v5 | assumption | exact J.v3 | exact J.v4 | exact J.v5 | exact J.v6 | exact J.l0 | exact J.l1 | exact J.l2 | exact J.l3 | exact J.row (by assumption) | exact J.ops (by assumption) | exact J.job (by assumption)) (by decide) (t_crit hV h hroom) (by decide) (by decide) (Nat.le_of_ble_eq_true rfl) rfl ?_
    refine bq_istore (i := 4) dL_isPath_4 (by decide) ?_
    refine bq_iconst (v := (-1 : Int32)) dL_isPath_6 (by decide) ?_
    refine bq_istore (i := 5) dL_isPath_7 (by decide) ?_
    refine bq_iload (i := 4) dL_isPath_9 rfl ?_
    refine bq_iload_n (i := 3) dL_isPath_11 rfl ?_
    refine bq_icmp_gt (tgt := 41) dL_isPath_12 (by decide) (fun z9_ => absurd z9_ (nI_nlt hnA (by omega))) (fun c_12 => ?_)
    refine bq_iload (i := 4) dL_isPath_15 rfl ?_
    refine bq_if_le (tgt := 24) dL_isPath_17 (by decide) (fun z9_ => absurd z9_ (nI_nle hn0 (by omega))) (fun c_17 => ?_)
    refine bq_iconst (v := (nI 1)) dL_isPath_20 (by decide) ?_
    refine bq_goto (tgt := 25) dL_isPath_21 (by decide) ?_
    refine bq_iload_n (i := 3) dL_isPath_25 rfl ?_
    refine bq_if_le (tgt := 33) dL_isPath_26 (by decide) (fun z9_ => absurd z9_ (nI_nle (by omega) (by omega))) (fun c_26 => ?_)
    refine bq_iconst (v := (nI 1)) dL_isPath_29 (by decide) ?_
    refine bq_goto (tgt := 34) dL_isPath_30 (by decide) ?_
    refine bq_icmp_ne (tgt := 41) dL_isPath_34 (by decide) (fun z9_ => absurd rfl z9_) (fun c_34 => ?_)
    refine bq_iconst (v := (nI 1)) dL_isPath_37 (by decide) ?_
    refine bq_goto (tgt := 42) dL_isPath_38 (by decide) ?_
    refine bq_istore (i := 6) dL_isPath_42 (by decide) ?_
    refine bq_iconst (v := (nI 0)) dL_isPath_44 (by decide) ?_
    refine bq_istore (i := 7) dL_isPath_45 (by decide) ?_
    refine bq_lvs (lv' := [(0, .ref (bt_ad α 5 0)), (1, .ref (bt_ad α 8 38)), (2, .int (nI P)), (3, .int (nI A)), (4, .int (nI (u_pth σ x).length)), (5, .int ((-1 : Int32))), (6, .int (nI 1)), (7, .int (nI 0))]) ⟨rfl, rfl, rfl, rfl, rfl, rfl, rfl, rfl, trivial⟩ ?_
    exact u_path_l hV h hL hP hroom _ 0 _ _ (Nat.zero_add _) (u_pathR h) (Nat.zero_le _) (fun _ => rfl) (fun a q => absurd q (Nat.lt_irrefl _))
end UPA
