/-! ===== the law: areTimes ===== -/
section UTM
variable {α : bt_A} {σ x : bt_X} {G : bp_X}
theorem u_prev (h : v_Inv σ x) {j k : Nat} (hj : j < b_nj σ) (hp : σ.1 0 j 3 = nI 1) (hk : k + 1 < b_np σ j) : u_F σ x (4 * j + k) ≤ v_s x (4 * j + (k + 1)) := by
  have := u_np4 h hj
  obtain ⟨o1, o2⟩ := v_job_pl h hj hp hk
  have e6 : σ.2.1 2 (4 * j + (k + 1)) 6 = some (4 * j + k) := by
    rw [(h.1.1.2.1 _ o1).2.2.2.1, if_neg (by omega)]
    exact congrArg some (by omega)
  exact (v_ahead_le h o2 (Or.inl e6)).2
theorem u_job01 (h : v_Inv σ x) {j : Nat} (hj : j < b_nj σ) : σ.1 0 j 3 = nI 0 ∨ (σ.1 0 j 3 = nI 1 ∧ b_np σ j ≠ 0) := (h.1.1.2.2.2.2.1 j hj).2.2
theorem u_mx_b (h : v_Inv σ x) {Q : List Nat} {S : Nat} (hm : u_mx σ x Q S) (hQ : ∀ i ∈ Q, i ∈ x.2.2 2) : S < 20000 := by
  rcases hm.2 with q | ⟨i, q1, q2⟩
  · omega
  · have := (u_F_b h (hQ i q1)).2.1
    omega
set_option maxRecDepth 100000 in
set_option maxHeartbeats 1000000 in
theorem u_times_in (hV : z_V α σ) (h : v_Inv σ x) (hL : u_L σ x) (hroom : bt_us α + 110 ≤ bp_max) {Φ : bp_O → bq_O → Prop} {j : Nat} (hj : j < b_nj σ) (hp : σ.1 0 j 3 = nI 1) (hnp : b_np σ j ≠ 0) : ∀ (n k : Nat) (y : bt_X) (S b : Nat), k + n = b_np σ j → u_R x y →
    u_mx σ x (u_PL σ j ++ List.range' (4 * j) k) S → (k = 0 → b = 0) → (0 < k → b = u_F σ x (4 * j + (k - 1))) →
    (∀ (y' : bt_X) (S' : Nat), u_R x y' → u_mx σ x (u_PL σ j ++ List.range' (4 * j) (b_np σ j)) S' → bq_W G mL_areTimes 10 135 [(0, .ref (bt_ad α 5 0)), (1, .ref (bt_ad α 8 35)), (2, .ref (bt_ad α 8 36)), (3, .ref (bt_ad α 8 37)), (4, .ref (bt_ad α 8 38)), (5, .int (nI (b_nj σ))), (6, .int (nI S')), (7, .int (nI ((u_PL σ j).length + b_np σ j))), (8, .int (nI 1)), (9, .int (nI j)), (10, .int (nI (u_F σ x (4 * j + (b_np σ j - 1)))))] [] (bt α σ y') Φ) →
    bq_W G mL_areTimes 10 25 [(0, .ref (bt_ad α 5 0)), (1, .ref (bt_ad α 8 35)), (2, .ref (bt_ad α 8 36)), (3, .ref (bt_ad α 8 37)), (4, .ref (bt_ad α 8 38)), (5, .int (nI (b_nj σ))), (6, .int (nI S)), (7, .int (nI ((u_PL σ j).length + k))), (8, .int (nI 1)), (9, .int (nI j)), (10, .int (nI b)), (11, .int (nI k))] [] (bt α σ y) Φ := by
  have h8 := u_nj8 h
  have hp4 := u_np4 h hj
  intro n
  induction n with
  | zero =>
    intro k y S b hk r hm h0 hs kk
    have e35 : y.1 8 35 j = nI (b_np σ j) := by rw [r.arr (by omega), hL.1 j (by omega), if_pos hj]
    have ek : k = b_np σ j := by omega
    rw [hs (by omega), ek]
    rw [ek] at hm
    refine bq_iload (i := 11) dL_areTimes_25 rfl ?_
    refine bq_aload_n (i := 1) dL_areTimes_27 rfl ?_
    refine bq_iload (i := 9) dL_areTimes_28 rfl ?_
    refine bt_iald0 (n := 35) (j := j) dL_areTimes_30 hV.a35 rfl (by omega) (by decide) rfl ?_
    rw [e35]
    refine bq_icmp_ge (tgt := 135) dL_areTimes_31 (by decide) (fun c_31 => ?_) (fun z9_ => absurd (Int32.le_refl _) z9_)
    refine bq_lvs (lv' := [(0, .ref (bt_ad α 5 0)), (1, .ref (bt_ad α 8 35)), (2, .ref (bt_ad α 8 36)), (3, .ref (bt_ad α 8 37)), (4, .ref (bt_ad α 8 38)), (5, .int (nI (b_nj σ))), (6, .int (nI S)), (7, .int (nI ((u_PL σ j).length + b_np σ j))), (8, .int (nI 1)), (9, .int (nI j)), (10, .int (nI (u_F σ x (4 * j + (b_np σ j - 1)))))]) ⟨rfl, rfl, rfl, rfl, rfl, rfl, rfl, rfl, rfl, rfl, rfl, trivial⟩ ?_
    exact kk y S r hm
  | succ n ih =>
    intro k y S b hk r hm h0 hs kk
    have e35 : y.1 8 35 j = nI (b_np σ j) := by rw [r.arr (by omega), hL.1 j (by omega), if_pos hj]
    have e36 : y.1 8 36 j = nI 1 := by rw [r.arr (by omega), hL.2.1 j (by omega), if_pos hj, hp]
    have hkn : k < b_np σ j := by omega
    obtain ⟨hop, hio⟩ := v_job_pl h hj hp hkn
    have hf := u_F_b h hio
    have hy := h.u r
    have es1 : v_s y (4 * j + k) = v_s x (4 * j + k) := r.s
    have hbs : b ≤ v_s x (4 * j + k) := by
      rcases Nat.eq_zero_or_pos k with q | q
      · rw [h0 q]; exact Nat.zero_le _
      · rw [hs q]
        have := u_prev h hj hp (k := k - 1) (by omega)
        rw [show k - 1 + 1 = k by omega] at this
        exact this
    have hr2 : u_R x (b_later σ y) := r.trans (u_later hy)
    have h2 := h.u hr2
    have hr3 : u_R x (b_lat σ (b_later σ y)) := hr2.trans (u_lat h2)
    have e38 : (b_lat σ (b_later σ y)).1 8 38 (4 * j + k) = nI (v_ln σ (4 * j + k)) := by rw [hr3.arr (by omega), hL.2.2.2.1 _ hop]; exact hf.2.2.2.2.1
    obtain ⟨d, hd, hsl⟩ := t_slk (G := G) hV h2 hj hkn hp hroom
    have hSb : S < 20000 := u_mx_b h hm (fun i hi => by
      rcases List.mem_append.mp hi with q | q
      · obtain ⟨j', q1, q2, q3, q4⟩ := (u_PL_mem j i).mp q
        have := (v_job_pl h (show j' < b_nj σ by omega) q2 (k := i - 4 * j') (by omega)).2
        rw [show 4 * j' + (i - 4 * j') = i by omega] at this
        exact this
      · rw [List.mem_range'_1] at q
        have := (v_job_pl h hj hp (k := i - 4 * j) (by omega)).2
        rw [show 4 * j + (i - 4 * j) = i by omega] at this
        exact this)
    have hm2 := hm.add (i := 4 * j + k)
    rw [List.append_assoc, show List.range' (4 * j) k ++ [4 * j + k] = List.range' (4 * j) (k + 1) from (List.range'_1_concat ..).symm] at hm2
    have hFe : u_F σ x (4 * j + k) = v_s x (4 * j + k) + v_ln σ (4 * j + k) := rfl
    by_cases c9 : v_s x (4 * j + k) + v_ln σ (4 * j + k) ≤ S
    · rw [if_neg (by omega)] at hm2
      refine bq_iload (i := 11) dL_areTimes_25 rfl ?_
      refine bq_aload_n (i := 1) dL_areTimes_27 rfl ?_
      refine bq_iload (i := 9) dL_areTimes_28 rfl ?_
      refine bt_iald0 (n := 35) (j := j) dL_areTimes_30 hV.a35 rfl (by omega) (by decide) rfl ?_
      rw [e35]
      refine bq_icmp_ge (tgt := 135) dL_areTimes_31 (by decide) (fun z9_ => absurd z9_ (nI_ge hkn (by omega))) (fun c_31 => ?_)
      refine bq_aload_n (i := 2) dL_areTimes_34 rfl ?_
      refine bq_iload (i := 9) dL_areTimes_35 rfl ?_
      refine bt_iald0 (n := 36) (j := j) dL_areTimes_37 hV.a36 rfl (by omega) (by decide) rfl ?_
      rw [e36]
      refine bq_iconst (v := (nI 1)) dL_areTimes_38 (by decide) ?_
      refine bq_icmp_ne (tgt := 135) dL_areTimes_39 (by decide) (fun z9_ => absurd rfl z9_) (fun c_39 => ?_)
      refine bq_iload (i := 8) dL_areTimes_42 rfl ?_
      refine bq_if_eq (tgt := 135) dL_areTimes_44 (by decide) (fun z9_ => absurd z9_ (show ¬ nI 1 = 0 by decide)) (fun c_44 => ?_)
      refine bq_aload_n (i := 0) dL_areTimes_47 rfl ?_
      refine bq_iload (i := 9) dL_areTimes_48 rfl ?_
      refine bq_iload (i := 11) dL_areTimes_50 rfl ?_
      refine bt_callVr (c := 5) (i := 0) dL_areTimes_52 rfl ml_L_8 (by first | exact hV.v5 | assumption | exact J.v3 | exact J.v4 | exact J.v5 | exact J.v6 | exact J.l0 | exact J.l1 | exact J.l2 | exact J.l3 | exact J.row (by assumption) | exact J.ops (by assumption) | exact J.job (by assumption)) (by decide) (t_st hV hy hj hkn hp hroom) (by decide) (by decide) (Nat.le_of_ble_eq_true rfl) rfl ?_
      rw [es1]
      refine bq_istore (i := 12) dL_areTimes_55 (by decide) ?_
      refine bq_iload (i := 12) dL_areTimes_57 rfl ?_
      refine bq_iload (i := 10) dL_areTimes_59 rfl ?_
      refine bq_icmp_lt (tgt := 92) dL_areTimes_61 (by decide) (fun z9_ => absurd z9_ (nI_nlt hbs (by omega))) (fun c_61 => ?_)
      refine bq_aload_n (i := 0) dL_areTimes_64 rfl ?_
      refine bq_iload (i := 9) dL_areTimes_65 rfl ?_
      refine bq_iload (i := 11) dL_areTimes_67 rfl ?_
      refine bt_callVr (c := 5) (i := 0) dL_areTimes_69 rfl ml_L_14 (by first | exact hV.v5 | assumption | exact J.v3 | exact J.v4 | exact J.v5 | exact J.v6 | exact J.l0 | exact J.l1 | exact J.l2 | exact J.l3 | exact J.row (by assumption) | exact J.ops (by assumption) | exact J.job (by assumption)) (by decide) (t_sbr hV hy hj hkn hp hroom) (by decide) (by decide) (Nat.le_of_ble_eq_true rfl) rfl ?_
      rw [es1]
      refine bq_iload (i := 12) dL_areTimes_72 rfl ?_
      refine bq_icmp_ne (tgt := 92) dL_areTimes_74 (by decide) (fun z9_ => absurd rfl z9_) (fun c_74 => ?_)
      refine bq_aload_n (i := 0) dL_areTimes_77 rfl ?_
      refine bq_iload (i := 9) dL_areTimes_78 rfl ?_
      refine bq_iload (i := 11) dL_areTimes_80 rfl ?_
      refine bt_callVr (c := 5) (i := 0) dL_areTimes_82 rfl ml_L_17 (by first | exact hV.v5 | assumption | exact J.v3 | exact J.v4 | exact J.v5 | exact J.v6 | exact J.l0 | exact J.l1 | exact J.l2 | exact J.l3 | exact J.row (by assumption) | exact J.ops (by assumption) | exact J.job (by assumption)) (by decide) (hsl) (by decide) (by decide) (Nat.le_of_ble_eq_true rfl) rfl ?_
      refine bq_if_lt (tgt := 92) dL_areTimes_85 (by decide) (fun z9_ => absurd z9_ (nI_pos (by omega))) (fun c_85 => ?_)
      refine bq_iconst (v := (nI 1)) dL_areTimes_88 (by decide) ?_
      refine bq_goto (tgt := 93) dL_areTimes_89 (by decide) ?_
      refine bq_istore (i := 8) dL_areTimes_93 (by decide) ?_
      refine bq_iload (i := 12) dL_areTimes_95 rfl ?_
      refine bq_aload (i := 4) dL_areTimes_97 rfl ?_
      refine bq_iconst (v := (nI 4)) dL_areTimes_99 (by decide) ?_
      refine bq_iload (i := 9) dL_areTimes_100 rfl ?_
      refine bq_imul dL_areTimes_102 ?_
      rw [pk_mul]
      refine bq_iload (i := 11) dL_areTimes_103 rfl ?_
      refine bq_iadd dL_areTimes_105 ?_
      rw [nI_add]
      refine bt_iald0 (n := 38) (j := (4 * j + k)) dL_areTimes_106 hV.a38 rfl (by omega) (by decide) rfl ?_
      rw [e38]
      refine bq_iadd dL_areTimes_107 ?_
      rw [nI_add]
      refine bq_istore (i := 10) dL_areTimes_108 (by decide) ?_
      refine bq_iload (i := 10) dL_areTimes_110 rfl ?_
      refine bq_iload (i := 6) dL_areTimes_112 rfl ?_
      refine bq_icmp_le (tgt := 122) dL_areTimes_114 (by decide) (fun c_114 => ?_) (fun z9_ => absurd (nI_le c9 (by omega)) z9_)
      refine bq_iload (i := 6) dL_areTimes_122 rfl ?_
      refine bq_istore (i := 6) dL_areTimes_124 (by decide) ?_
      refine bq_iinc dL_areTimes_126 rfl (by decide) (by first | exact bp_inc _ | rfl) ?_
      refine bq_iinc dL_areTimes_129 rfl (by decide) (by first | exact bp_inc _ | rfl) ?_
      refine bq_goto (tgt := 25) dL_areTimes_132 (by decide) ?_
      refine bq_lvs (lv' := [(0, .ref (bt_ad α 5 0)), (1, .ref (bt_ad α 8 35)), (2, .ref (bt_ad α 8 36)), (3, .ref (bt_ad α 8 37)), (4, .ref (bt_ad α 8 38)), (5, .int (nI (b_nj σ))), (6, .int (nI S)), (7, .int (nI ((u_PL σ j).length + (k + 1)))), (8, .int (nI 1)), (9, .int (nI j)), (10, .int (nI (v_s x (4 * j + k) + v_ln σ (4 * j + k)))), (11, .int (nI (k + 1)))]) ⟨rfl, rfl, rfl, rfl, rfl, rfl, rfl, rfl, rfl, rfl, rfl, rfl, trivial⟩ ?_
      exact ih (k + 1) _ S _ (by omega) hr3 hm2 (fun q => absurd q (by omega)) (fun _ => rfl) kk
    · rw [if_pos (by omega)] at hm2
      refine bq_iload (i := 11) dL_areTimes_25 rfl ?_
      refine bq_aload_n (i := 1) dL_areTimes_27 rfl ?_
      refine bq_iload (i := 9) dL_areTimes_28 rfl ?_
      refine bt_iald0 (n := 35) (j := j) dL_areTimes_30 hV.a35 rfl (by omega) (by decide) rfl ?_
      rw [e35]
      refine bq_icmp_ge (tgt := 135) dL_areTimes_31 (by decide) (fun z9_ => absurd z9_ (nI_ge hkn (by omega))) (fun c_31 => ?_)
      refine bq_aload_n (i := 2) dL_areTimes_34 rfl ?_
      refine bq_iload (i := 9) dL_areTimes_35 rfl ?_
      refine bt_iald0 (n := 36) (j := j) dL_areTimes_37 hV.a36 rfl (by omega) (by decide) rfl ?_
      rw [e36]
      refine bq_iconst (v := (nI 1)) dL_areTimes_38 (by decide) ?_
      refine bq_icmp_ne (tgt := 135) dL_areTimes_39 (by decide) (fun z9_ => absurd rfl z9_) (fun c_39 => ?_)
      refine bq_iload (i := 8) dL_areTimes_42 rfl ?_
      refine bq_if_eq (tgt := 135) dL_areTimes_44 (by decide) (fun z9_ => absurd z9_ (show ¬ nI 1 = 0 by decide)) (fun c_44 => ?_)
      refine bq_aload_n (i := 0) dL_areTimes_47 rfl ?_
      refine bq_iload (i := 9) dL_areTimes_48 rfl ?_
      refine bq_iload (i := 11) dL_areTimes_50 rfl ?_
      refine bt_callVr (c := 5) (i := 0) dL_areTimes_52 rfl ml_L_8 (by first | exact hV.v5 | assumption | exact J.v3 | exact J.v4 | exact J.v5 | exact J.v6 | exact J.l0 | exact J.l1 | exact J.l2 | exact J.l3 | exact J.row (by assumption) | exact J.ops (by assumption) | exact J.job (by assumption)) (by decide) (t_st hV hy hj hkn hp hroom) (by decide) (by decide) (Nat.le_of_ble_eq_true rfl) rfl ?_
      rw [es1]
      refine bq_istore (i := 12) dL_areTimes_55 (by decide) ?_
      refine bq_iload (i := 12) dL_areTimes_57 rfl ?_
      refine bq_iload (i := 10) dL_areTimes_59 rfl ?_
      refine bq_icmp_lt (tgt := 92) dL_areTimes_61 (by decide) (fun z9_ => absurd z9_ (nI_nlt hbs (by omega))) (fun c_61 => ?_)
      refine bq_aload_n (i := 0) dL_areTimes_64 rfl ?_
      refine bq_iload (i := 9) dL_areTimes_65 rfl ?_
      refine bq_iload (i := 11) dL_areTimes_67 rfl ?_
      refine bt_callVr (c := 5) (i := 0) dL_areTimes_69 rfl ml_L_14 (by first | exact hV.v5 | assumption | exact J.v3 | exact J.v4 | exact J.v5 | exact J.v6 | exact J.l0 | exact J.l1 | exact J.l2 | exact J.l3 | exact J.row (by assumption) | exact J.ops (by assumption) | exact J.job (by assumption)) (by decide) (t_sbr hV hy hj hkn hp hroom) (by decide) (by decide) (Nat.le_of_ble_eq_true rfl) rfl ?_
      rw [es1]
      refine bq_iload (i := 12) dL_areTimes_72 rfl ?_
      refine bq_icmp_ne (tgt := 92) dL_areTimes_74 (by decide) (fun z9_ => absurd rfl z9_) (fun c_74 => ?_)
      refine bq_aload_n (i := 0) dL_areTimes_77 rfl ?_
      refine bq_iload (i := 9) dL_areTimes_78 rfl ?_
      refine bq_iload (i := 11) dL_areTimes_80 rfl ?_
      refine bt_callVr (c := 5) (i := 0) dL_areTimes_82 rfl ml_L_17 (by first | exact hV.v5 | assumption | exact J.v3 | exact J.v4 | exact J.v5 | exact J.v6 | exact J.l0 | exact J.l1 | exact J.l2 | exact J.l3 | exact J.row (by assumption) | exact J.ops (by assumption) | exact J.job (by assumption)) (by decide) (hsl) (by decide) (by decide) (Nat.le_of_ble_eq_true rfl) rfl ?_
      refine bq_if_lt (tgt := 92) dL_areTimes_85 (by decide) (fun z9_ => absurd z9_ (nI_pos (by omega))) (fun c_85 => ?_)
      refine bq_iconst (v := (nI 1)) dL_areTimes_88 (by decide) ?_
      refine bq_goto (tgt := 93) dL_areTimes_89 (by decide) ?_
      refine bq_istore (i := 8) dL_areTimes_93 (by decide) ?_
      refine bq_iload (i := 12) dL_areTimes_95 rfl ?_
      refine bq_aload (i := 4) dL_areTimes_97 rfl ?_
      refine bq_iconst (v := (nI 4)) dL_areTimes_99 (by decide) ?_
      refine bq_iload (i := 9) dL_areTimes_100 rfl ?_
      refine bq_imul dL_areTimes_102 ?_
      rw [pk_mul]
      refine bq_iload (i := 11) dL_areTimes_103 rfl ?_
      refine bq_iadd dL_areTimes_105 ?_
      rw [nI_add]
      refine bt_iald0 (n := 38) (j := (4 * j + k)) dL_areTimes_106 hV.a38 rfl (by omega) (by decide) rfl ?_
      rw [e38]
      refine bq_iadd dL_areTimes_107 ?_
      rw [nI_add]
      refine bq_istore (i := 10) dL_areTimes_108 (by decide) ?_
      refine bq_iload (i := 10) dL_areTimes_110 rfl ?_
      refine bq_iload (i := 6) dL_areTimes_112 rfl ?_
      refine bq_icmp_le (tgt := 122) dL_areTimes_114 (by decide) (fun z9_ => absurd z9_ (nI_ge (Nat.lt_of_not_le c9) (by omega))) (fun c_114 => ?_)
      refine bq_iload (i := 10) dL_areTimes_117 rfl ?_
      refine bq_goto (tgt := 124) dL_areTimes_119 (by decide) ?_
      refine bq_istore (i := 6) dL_areTimes_124 (by decide) ?_
      refine bq_iinc dL_areTimes_126 rfl (by decide) (by first | exact bp_inc _ | rfl) ?_
      refine bq_iinc dL_areTimes_129 rfl (by decide) (by first | exact bp_inc _ | rfl) ?_
      refine bq_goto (tgt := 25) dL_areTimes_132 (by decide) ?_
      refine bq_lvs (lv' := [(0, .ref (bt_ad α 5 0)), (1, .ref (bt_ad α 8 35)), (2, .ref (bt_ad α 8 36)), (3, .ref (bt_ad α 8 37)), (4, .ref (bt_ad α 8 38)), (5, .int (nI (b_nj σ))), (6, .int (nI (v_s x (4 * j + k) + v_ln σ (4 * j + k)))), (7, .int (nI ((u_PL σ j).length + (k + 1)))), (8, .int (nI 1)), (9, .int (nI j)), (10, .int (nI (v_s x (4 * j + k) + v_ln σ (4 * j + k)))), (11, .int (nI (k + 1)))]) ⟨rfl, rfl, rfl, rfl, rfl, rfl, rfl, rfl, rfl, rfl, rfl, rfl, trivial⟩ ?_
      exact ih (k + 1) _ (v_s x (4 * j + k) + v_ln σ (4 * j + k)) _ (by omega) hr3 hm2 (fun q => absurd q (by omega)) (fun _ => rfl) kk
set_option maxRecDepth 100000 in
set_option maxHeartbeats 1000000 in
theorem u_times_l (hV : z_V α σ) (h : v_Inv σ x) (hL : u_L σ x) {P : Nat} (hP : x.1 4 0 5 = nI P) (hP2 : P < 1000000) (hroom : bt_us α + 110 ≤ bp_max) : ∀ (n j : Nat) (y : bt_X) (S : Nat), j + n = b_nj σ → u_R x y → u_mx σ x (u_PL σ j) S →
    bq_W G mL_areTimes 10 12 [(0, .ref (bt_ad α 5 0)), (1, .ref (bt_ad α 8 35)), (2, .ref (bt_ad α 8 36)), (3, .ref (bt_ad α 8 37)), (4, .ref (bt_ad α 8 38)), (5, .int (nI (b_nj σ))), (6, .int (nI S)), (7, .int (nI (u_PL σ j).length)), (8, .int (nI 1)), (9, .int (nI j))] [] (bt α σ y) (fun o w' => o = .inl (some (.int (nI 1))) ∧ ∃ x', u_R x x' ∧ w' = bt α σ x') := by
  have h8 := u_nj8 h
  intro n
  induction n with
  | zero =>
    intro j y S hj r hm
    have ej : j = b_nj σ := by omega
    subst ej
    have hy := h.u r
    have eP : y.1 4 0 5 = nI P := by rw [r.2.2 4 0 5 (by omega) (by omega), hP]
    have hSP : S = P := u_mx_P h hm hP hP2
    refine bq_iload (i := 9) dL_areTimes_12 rfl ?_
    refine bq_iload (i := 5) dL_areTimes_14 rfl ?_
    refine bq_icmp_ge (tgt := 189) dL_areTimes_16 (by decide) (fun c_16 => ?_) (fun z9_ => absurd (nI_le (by omega) (by omega)) z9_)
    refine bq_iload (i := 8) dL_areTimes_189 rfl ?_
    refine bq_if_eq (tgt := 220) dL_areTimes_191 (by decide) (fun z9_ => absurd z9_ (show ¬ nI 1 = 0 by decide)) (fun c_191 => ?_)
    refine bq_aload_n (i := 0) dL_areTimes_194 rfl ?_
    refine bt_callVr (c := 5) (i := 0) dL_areTimes_195 rfl ml_L_24 (by first | exact hV.v5 | assumption | exact J.v3 | exact J.v4 | exact J.v5 | exact J.v6 | exact J.l0 | exact J.l1 | exact J.l2 | exact J.l3 | exact J.row (by assumption) | exact J.ops (by assumption) | exact J.job (by assumption)) (by decide) (t_span hV hy hroom) (by decide) (by decide) (Nat.le_of_ble_eq_true rfl) rfl ?_
    rw [eP]
    refine bq_iload (i := 6) dL_areTimes_198 rfl ?_
    refine bq_icmp_ne (tgt := 220) dL_areTimes_200 (by decide) (fun z9_ => absurd (congrArg nI hSP.symm) z9_) (fun c_200 => ?_)
    refine bq_aload_n (i := 0) dL_areTimes_203 rfl ?_
    refine bq_aload (i := 4) dL_areTimes_204 rfl ?_
    refine bq_iload (i := 6) dL_areTimes_206 rfl ?_
    refine bq_iload (i := 7) dL_areTimes_208 rfl ?_
    refine bq_callS dL_areTimes_210 ml_L_28 (u_isPath hV hy (hL.u r) (by rw [eP, hSP]) (by rw [u_PL_len h, r.ord]) hroom) (by decide) (by decide) (Nat.le_of_ble_eq_true rfl) rfl (fun v w' hp => ?_) (fun E w' hp => by obtain ⟨q, -⟩ := hp; cases q)
    obtain ⟨q, x', r', rfl⟩ := hp
    cases q
    refine bq_if_eq (tgt := 220) dL_areTimes_213 (by decide) (fun z9_ => absurd z9_ (show ¬ nI 1 = 0 by decide)) (fun c_213 => ?_)
    refine bq_iconst (v := (nI 1)) dL_areTimes_216 (by decide) ?_
    refine bq_goto (tgt := 221) dL_areTimes_217 (by decide) ?_
    exact bq_iret dL_areTimes_221 rfl (by first | rfl | decide) ⟨rfl, x', r.trans r', rfl⟩
  | succ n ih =>
    intro j y S hjn r hm
    have hj : j < b_nj σ := by omega
    have hp4 := u_np4 h hj
    obtain ⟨-, ⟨d, hd, hd2⟩, -⟩ := h.1.1.2.2.2.2.1 j hj
    rcases u_job01 h hj with hp | ⟨hp, hnp⟩
    · have hPL : u_PL σ (j + 1) = u_PL σ j := by
        show u_PL σ j ++ _ = _
        rw [if_neg (by rw [hp]; decide), List.append_nil]
      have e35 : y.1 8 35 j = nI (b_np σ j) := by rw [r.arr (by omega), hL.1 j (by omega), if_pos hj]
      have e36 : y.1 8 36 j = nI 0 := by rw [r.arr (by omega), hL.2.1 j (by omega), if_pos hj, hp]
      have k135 : bq_W G mL_areTimes 10 135 [(0, .ref (bt_ad α 5 0)), (1, .ref (bt_ad α 8 35)), (2, .ref (bt_ad α 8 36)), (3, .ref (bt_ad α 8 37)), (4, .ref (bt_ad α 8 38)), (5, .int (nI (b_nj σ))), (6, .int (nI S)), (7, .int (nI (u_PL σ j).length)), (8, .int (nI 1)), (9, .int (nI j)), (10, .int (nI 0))] [] (bt α σ y) (fun o w' => o = .inl (some (.int (nI 1))) ∧ ∃ x', u_R x x' ∧ w' = bt α σ x') := by
        refine bq_iload (i := 8) dL_areTimes_135 rfl ?_
        refine bq_if_eq (tgt := 180) dL_areTimes_137 (by decide) (fun z9_ => absurd z9_ (show ¬ nI 1 = 0 by decide)) (fun c_137 => ?_)
        refine bq_aload_n (i := 2) dL_areTimes_140 rfl ?_
        refine bq_iload (i := 9) dL_areTimes_141 rfl ?_
        refine bt_iald0 (n := 36) (j := j) dL_areTimes_143 hV.a36 rfl (by omega) (by decide) rfl ?_
        rw [e36]
        refine bq_if_eq (tgt := 176) dL_areTimes_144 (by decide) (fun c_144 => ?_) (fun z9_ => absurd (show nI 0 = 0 from rfl) z9_)
        refine bq_iconst (v := (nI 1)) dL_areTimes_176 (by decide) ?_
        refine bq_goto (tgt := 181) dL_areTimes_177 (by decide) ?_
        refine bq_istore (i := 8) dL_areTimes_181 (by decide) ?_
        refine bq_iinc dL_areTimes_183 rfl (by decide) (by first | exact bp_inc _ | rfl) ?_
        refine bq_goto (tgt := 12) dL_areTimes_186 (by decide) ?_
        refine bq_lvs (lv' := [(0, .ref (bt_ad α 5 0)), (1, .ref (bt_ad α 8 35)), (2, .ref (bt_ad α 8 36)), (3, .ref (bt_ad α 8 37)), (4, .ref (bt_ad α 8 38)), (5, .int (nI (b_nj σ))), (6, .int (nI S)), (7, .int (nI (u_PL σ j).length)), (8, .int (nI 1)), (9, .int (nI (j + 1)))]) ⟨rfl, rfl, rfl, rfl, rfl, rfl, rfl, rfl, rfl, rfl, trivial⟩ ?_
        have K := ih (j + 1) y S (by omega) r (by rw [hPL]; exact hm)
        rw [hPL] at K
        exact K
      refine bq_iload (i := 9) dL_areTimes_12 rfl ?_
      refine bq_iload (i := 5) dL_areTimes_14 rfl ?_
      refine bq_icmp_ge (tgt := 189) dL_areTimes_16 (by decide) (fun z9_ => absurd z9_ (nI_ge hj (by omega))) (fun c_16 => ?_)
      refine bq_iconst (v := (nI 0)) dL_areTimes_19 (by decide) ?_
      refine bq_istore (i := 10) dL_areTimes_20 (by decide) ?_
      refine bq_iconst (v := (nI 0)) dL_areTimes_22 (by decide) ?_
      refine bq_istore (i := 11) dL_areTimes_23 (by decide) ?_
      refine bq_iload (i := 11) dL_areTimes_25 rfl ?_
      refine bq_aload_n (i := 1) dL_areTimes_27 rfl ?_
      refine bq_iload (i := 9) dL_areTimes_28 rfl ?_
      refine bt_iald0 (n := 35) (j := j) dL_areTimes_30 hV.a35 rfl (by omega) (by decide) rfl ?_
      rw [e35]
      refine bq_icmp_ge (tgt := 135) dL_areTimes_31 (by decide) (fun c_31 => ?_) (fun c_31 => ?_)
      · refine bq_lvs (lv' := [(0, .ref (bt_ad α 5 0)), (1, .ref (bt_ad α 8 35)), (2, .ref (bt_ad α 8 36)), (3, .ref (bt_ad α 8 37)), (4, .ref (bt_ad α 8 38)), (5, .int (nI (b_nj σ))), (6, .int (nI S)), (7, .int (nI (u_PL σ j).length)), (8, .int (nI 1)), (9, .int (nI j)), (10, .int (nI 0))]) ⟨rfl, rfl, rfl, rfl, rfl, rfl, rfl, rfl, rfl, rfl, rfl, trivial⟩ ?_
        exact k135
      · refine bq_aload_n (i := 2) dL_areTimes_34 rfl ?_
        refine bq_iload (i := 9) dL_areTimes_35 rfl ?_
        refine bt_iald0 (n := 36) (j := j) dL_areTimes_37 hV.a36 rfl (by omega) (by decide) rfl ?_
        rw [e36]
        refine bq_iconst (v := (nI 1)) dL_areTimes_38 (by decide) ?_
        refine bq_icmp_ne (tgt := 135) dL_areTimes_39 (by decide) (fun c_39 => ?_) (fun z9_ => absurd z9_ (show ¬ nI 0 = nI 1 by decide))
        refine bq_lvs (lv' := [(0, .ref (bt_ad α 5 0)), (1, .ref (bt_ad α 8 35)), (2, .ref (bt_ad α 8 36)), (3, .ref (bt_ad α 8 37)), (4, .ref (bt_ad α 8 38)), (5, .int (nI (b_nj σ))), (6, .int (nI S)), (7, .int (nI (u_PL σ j).length)), (8, .int (nI 1)), (9, .int (nI j)), (10, .int (nI 0))]) ⟨rfl, rfl, rfl, rfl, rfl, rfl, rfl, rfl, rfl, rfl, rfl, trivial⟩ ?_
        exact k135
    · have hPL : u_PL σ (j + 1) = u_PL σ j ++ List.range' (4 * j) (b_np σ j) := by
        show u_PL σ j ++ _ = _
        rw [if_pos hp]
      have hPl : (u_PL σ (j + 1)).length = (u_PL σ j).length + b_np σ j := by rw [hPL, List.length_append, List.length_range']
      refine bq_iload (i := 9) dL_areTimes_12 rfl ?_
      refine bq_iload (i := 5) dL_areTimes_14 rfl ?_
      refine bq_icmp_ge (tgt := 189) dL_areTimes_16 (by decide) (fun z9_ => absurd z9_ (nI_ge hj (by omega))) (fun c_16 => ?_)
      refine bq_iconst (v := (nI 0)) dL_areTimes_19 (by decide) ?_
      refine bq_istore (i := 10) dL_areTimes_20 (by decide) ?_
      refine bq_iconst (v := (nI 0)) dL_areTimes_22 (by decide) ?_
      refine bq_istore (i := 11) dL_areTimes_23 (by decide) ?_
      refine bq_lvs (lv' := [(0, .ref (bt_ad α 5 0)), (1, .ref (bt_ad α 8 35)), (2, .ref (bt_ad α 8 36)), (3, .ref (bt_ad α 8 37)), (4, .ref (bt_ad α 8 38)), (5, .int (nI (b_nj σ))), (6, .int (nI S)), (7, .int (nI ((u_PL σ j).length + 0))), (8, .int (nI 1)), (9, .int (nI j)), (10, .int (nI 0)), (11, .int (nI 0))]) ⟨rfl, rfl, rfl, rfl, rfl, rfl, rfl, rfl, rfl, rfl, rfl, rfl, trivial⟩ ?_
      refine u_times_in hV h hL hroom hj hp hnp _ 0 y S 0 (Nat.zero_add _) r (by rw [show List.range' (4 * j) 0 = [] from rfl, List.append_nil]; exact hm) (fun _ => rfl) (fun q => absurd q (Nat.lt_irrefl _)) (fun y' S' r' hm' => ?_)
      have e36 : y'.1 8 36 j = nI 1 := by rw [r'.arr (by omega), hL.2.1 j (by omega), if_pos hj, hp]
      have e37 : y'.1 8 37 j = nI d := by rw [r'.arr (by omega), hL.2.2.1 j hj, hd]
      have eF : u_F σ y' (4 * j + (b_np σ j - 1)) = u_F σ x (4 * j + (b_np σ j - 1)) := by unfold u_F; rw [r'.s]
      have hFb := (u_F_b h (v_job_pl h hj hp (k := b_np σ j - 1) (by omega)).2).2.1
      have K := ih (j + 1) y' S' (by omega) r' (by rw [hPL]; exact hm')
      rw [hPl] at K
      by_cases c9 : u_F σ x (4 * j + (b_np σ j - 1)) ≤ d
      · refine bq_iload (i := 8) dL_areTimes_135 rfl ?_
        refine bq_if_eq (tgt := 180) dL_areTimes_137 (by decide) (fun z9_ => absurd z9_ (show ¬ nI 1 = 0 by decide)) (fun c_137 => ?_)
        refine bq_aload_n (i := 2) dL_areTimes_140 rfl ?_
        refine bq_iload (i := 9) dL_areTimes_141 rfl ?_
        refine bt_iald0 (n := 36) (j := j) dL_areTimes_143 hV.a36 rfl (by omega) (by decide) rfl ?_
        rw [e36]
        refine bq_if_eq (tgt := 176) dL_areTimes_144 (by decide) (fun z9_ => absurd z9_ (show ¬ nI 1 = 0 by decide)) (fun c_144 => ?_)
        refine bq_aload_n (i := 0) dL_areTimes_147 rfl ?_
        refine bq_iload (i := 9) dL_areTimes_148 rfl ?_
        refine bt_callVr (c := 5) (i := 0) dL_areTimes_150 rfl ml_L_20 (by first | exact hV.v5 | assumption | exact J.v3 | exact J.v4 | exact J.v5 | exact J.v6 | exact J.l0 | exact J.l1 | exact J.l2 | exact J.l3 | exact J.row (by assumption) | exact J.ops (by assumption) | exact J.job (by assumption)) (by decide) (t_late hV (h.u r') hj hp hd hd2 hroom) (by decide) (by decide) (Nat.le_of_ble_eq_true rfl) rfl ?_
        rw [eF]
        refine bq_iload (i := 10) dL_areTimes_153 rfl ?_
        refine bq_aload_n (i := 3) dL_areTimes_155 rfl ?_
        refine bq_iload (i := 9) dL_areTimes_156 rfl ?_
        refine bt_iald0 (n := 37) (j := j) dL_areTimes_158 hV.a37 rfl (by omega) (by decide) rfl ?_
        rw [e37]
        refine bq_icmp_le (tgt := 172) dL_areTimes_159 (by decide) (fun c_159 => ?_) (fun z9_ => absurd (nI_le c9 (by omega)) z9_)
        refine bq_iconst (v := (nI 0)) dL_areTimes_172 (by decide) ?_
        refine bq_icmp_ne (tgt := 180) dL_areTimes_173 (by decide) (fun z9_ => absurd (congrArg nI (Nat.sub_eq_zero_of_le c9)) z9_) (fun c_173 => ?_)
        refine bq_iconst (v := (nI 1)) dL_areTimes_176 (by decide) ?_
        refine bq_goto (tgt := 181) dL_areTimes_177 (by decide) ?_
        refine bq_istore (i := 8) dL_areTimes_181 (by decide) ?_
        refine bq_iinc dL_areTimes_183 rfl (by decide) (by first | exact bp_inc _ | rfl) ?_
        refine bq_goto (tgt := 12) dL_areTimes_186 (by decide) ?_
        refine bq_lvs (lv' := [(0, .ref (bt_ad α 5 0)), (1, .ref (bt_ad α 8 35)), (2, .ref (bt_ad α 8 36)), (3, .ref (bt_ad α 8 37)), (4, .ref (bt_ad α 8 38)), (5, .int (nI (b_nj σ))), (6, .int (nI S')), (7, .int (nI ((u_PL σ j).length + b_np σ j))), (8, .int (nI 1)), (9, .int (nI (j + 1)))]) ⟨rfl, rfl, rfl, rfl, rfl, rfl, rfl, rfl, rfl, rfl, trivial⟩ ?_
        exact K
      · refine bq_iload (i := 8) dL_areTimes_135 rfl ?_
        refine bq_if_eq (tgt := 180) dL_areTimes_137 (by decide) (fun z9_ => absurd z9_ (show ¬ nI 1 = 0 by decide)) (fun c_137 => ?_)
        refine bq_aload_n (i := 2) dL_areTimes_140 rfl ?_
        refine bq_iload (i := 9) dL_areTimes_141 rfl ?_
        refine bt_iald0 (n := 36) (j := j) dL_areTimes_143 hV.a36 rfl (by omega) (by decide) rfl ?_
        rw [e36]
        refine bq_if_eq (tgt := 176) dL_areTimes_144 (by decide) (fun z9_ => absurd z9_ (show ¬ nI 1 = 0 by decide)) (fun c_144 => ?_)
        refine bq_aload_n (i := 0) dL_areTimes_147 rfl ?_
        refine bq_iload (i := 9) dL_areTimes_148 rfl ?_
        refine bt_callVr (c := 5) (i := 0) dL_areTimes_150 rfl ml_L_20 (by first | exact hV.v5 | assumption | exact J.v3 | exact J.v4 | exact J.v5 | exact J.v6 | exact J.l0 | exact J.l1 | exact J.l2 | exact J.l3 | exact J.row (by assumption) | exact J.ops (by assumption) | exact J.job (by assumption)) (by decide) (t_late hV (h.u r') hj hp hd hd2 hroom) (by decide) (by decide) (Nat.le_of_ble_eq_true rfl) rfl ?_
        rw [eF]
        refine bq_iload (i := 10) dL_areTimes_153 rfl ?_
        refine bq_aload_n (i := 3) dL_areTimes_155 rfl ?_
        refine bq_iload (i := 9) dL_areTimes_156 rfl ?_
        refine bt_iald0 (n := 37) (j := j) dL_areTimes_158 hV.a37 rfl (by omega) (by decide) rfl ?_
        rw [e37]
        refine bq_icmp_le (tgt := 172) dL_areTimes_159 (by decide) (fun z9_ => absurd z9_ (nI_ge (Nat.lt_of_not_le c9) (by omega))) (fun c_159 => ?_)
        refine bq_iload (i := 10) dL_areTimes_162 rfl ?_
        refine bq_aload_n (i := 3) dL_areTimes_164 rfl ?_
        refine bq_iload (i := 9) dL_areTimes_165 rfl ?_
        refine bt_iald0 (n := 37) (j := j) dL_areTimes_167 hV.a37 rfl (by omega) (by decide) rfl ?_
        rw [e37]
        refine bq_isub dL_areTimes_168 ?_
        rw [pk_sub (by omega)]
        refine bq_goto (tgt := 173) dL_areTimes_169 (by decide) ?_
        refine bq_icmp_ne (tgt := 180) dL_areTimes_173 (by decide) (fun z9_ => absurd rfl z9_) (fun c_173 => ?_)
        refine bq_iconst (v := (nI 1)) dL_areTimes_176 (by decide) ?_
        refine bq_goto (tgt := 181) dL_areTimes_177 (by decide) ?_
        refine bq_istore (i := 8) dL_areTimes_181 (by decide) ?_
        refine bq_iinc dL_areTimes_183 rfl (by decide) (by first | exact bp_inc _ | rfl) ?_
        refine bq_goto (tgt := 12) dL_areTimes_186 (by decide) ?_
        refine bq_lvs (lv' := [(0, .ref (bt_ad α 5 0)), (1, .ref (bt_ad α 8 35)), (2, .ref (bt_ad α 8 36)), (3, .ref (bt_ad α 8 37)), (4, .ref (bt_ad α 8 38)), (5, .int (nI (b_nj σ))), (6, .int (nI S')), (7, .int (nI ((u_PL σ j).length + b_np σ j))), (8, .int (nI 1)), (9, .int (nI (j + 1)))]) ⟨rfl, rfl, rfl, rfl, rfl, rfl, rfl, rfl, rfl, rfl, trivial⟩ ?_
        exact K
set_option maxRecDepth 100000 in
set_option maxHeartbeats 1000000 in
theorem u_areTimes (hV : z_V α σ) (h : v_Inv σ x) (hL : u_L σ x) (hroom : bt_us α + 110 ≤ bp_max) :
    bq_S G mL_areTimes 10 [.ref (bt_ad α 5 0), .ref (bt_ad α 8 35), .ref (bt_ad α 8 36), .ref (bt_ad α 8 37), .ref (bt_ad α 8 38), .int (nI (b_nj σ))] (bt α σ x) (fun o w' => o = .inl (some (.int (nI 1))) ∧ ∃ x', u_R x x' ∧ w' = bt α σ x') := by
  obtain ⟨P, p1, p2, -, -⟩ := u_P h
  refine bq_ofW (by decide +kernel) rfl (Nat.le_of_ble_eq_true rfl) ?_
  refine bq_iconst (v := (nI 0)) dL_areTimes_0 (by decide) ?_
  refine bq_istore (i := 6) dL_areTimes_1 (by decide) ?_
  refine bq_iconst (v := (nI 0)) dL_areTimes_3 (by decide) ?_
  refine bq_istore (i := 7) dL_areTimes_4 (by decide) ?_
  refine bq_iconst (v := (nI 1)) dL_areTimes_6 (by decide) ?_
  refine bq_istore (i := 8) dL_areTimes_7 (by decide) ?_
  refine bq_iconst (v := (nI 0)) dL_areTimes_9 (by decide) ?_
  refine bq_istore (i := 9) dL_areTimes_10 (by decide) ?_
  refine bq_lvs (lv' := [(0, .ref (bt_ad α 5 0)), (1, .ref (bt_ad α 8 35)), (2, .ref (bt_ad α 8 36)), (3, .ref (bt_ad α 8 37)), (4, .ref (bt_ad α 8 38)), (5, .int (nI (b_nj σ))), (6, .int (nI 0)), (7, .int (nI 0)), (8, .int (nI 1)), (9, .int (nI 0))]) ⟨rfl, rfl, rfl, rfl, rfl, rfl, rfl, rfl, rfl, rfl, trivial⟩ ?_
  exact u_times_l hV h hL p2 p1 hroom _ 0 x 0 (Nat.zero_add _) u_R.rf ⟨fun i hi => absurd hi List.not_mem_nil, Or.inl rfl⟩
end UTM
