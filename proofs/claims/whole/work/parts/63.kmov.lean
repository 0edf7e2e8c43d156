/-! ===== place, rush, remove, swap: their contracts ===== -/
set_option maxRecDepth 100000 in
set_option maxHeartbeats 400000 in
theorem k_place {G : bp_X} {α : bt_A} {σ x : bt_X} {a : Int32} (h : b_Ok α σ x) (hroom : bt_us α + 7 ≤ bp_max) (hcnt : ∀ j, b_wj σ a = .inl j → b_cnt x (σ.2.2 0) + b_np σ j ≤ 32) : bq_S G mX5_place 10 [.ref (bt_ad α 5 0), .int a] (bt α σ x) (b_end α (b_plcF σ x a)) := by
  have J := h.J
  have hS := h.S
  obtain ⟨F, hF⟩ : ∃ F, b_plcF σ x a = F := ⟨_, rfl⟩
  rw [hF]
  refine bq_ofW (by decide +kernel) rfl (Nat.le_of_ble_eq_true rfl) ?_
  unfold b_plcF at hF
  cases e1 : b_wj σ a with
  | inr E =>
    rw [e1] at hF
    simp only [] at hF
    refine bq_aload_n (i := 0) dX5_place_0 rfl ?_
    refine bq_iload_n (i := 1) dX5_place_1 rfl ?_
    exact bt_callVe (c := 5) (i := 0) dX5_place_2 rfl ml_X5_140 J.v5 (by decide) (c_wjN J hS e1 hroom) (by decide) (by decide) (Nat.le_of_ble_eq_true rfl) rfl rfl (by subst hF; exact ⟨rfl, rfl⟩)
  | inl r =>
    rw [e1] at hF
    simp only [] at hF
    obtain ⟨hj, hpl, hnp⟩ := b_wj_n hS e1
    have hVj := h.V0 hj
    have hp4 := (hS.2.2.2.2 r hj).2
    refine bq_aload_n (i := 0) dX5_place_0 rfl ?_
    refine bq_iload_n (i := 1) dX5_place_1 rfl ?_
    refine bt_callVr (c := 5) (i := 0) dX5_place_2 rfl ml_X5_140 (by first | assumption | exact J.v3 | exact J.v4 | exact J.v5 | exact J.v6 | exact J.l0 | exact J.l1 | exact J.l2 | exact J.l3 | exact J.row (by assumption) | exact J.ops (by assumption) | exact J.job (by assumption)) (by decide) (c_wjS J hS e1) (by decide) (by decide) (Nat.le_of_ble_eq_true rfl) rfl ?_
    refine bq_astore_n (i := 2) dX5_place_5 (by decide) ?_
    refine bq_iconst (v := (nI 0)) dX5_place_6 (by decide) ?_
    refine bq_istore_n (i := 3) dX5_place_7 (by decide) ?_
    refine bq_lvs (lv' := [(0, .ref (bt_ad α 5 0)), (2, .ref (bt_ad α 0 r)), (3, .int (nI 0))]) ⟨rfl, rfl, rfl, trivial⟩ ?_
    refine c_place_l hS h.v1m (h.2.2.2.2.2.1 r hj) hp4 hVj _ x 0 J (hcnt r e1) (by omega) rfl (fun J2 hc2 => ?_)
    refine bq_aload_n (i := 2) dX5_place_59 rfl ?_
    refine bq_iconst (v := (nI 1)) dX5_place_60 (by decide) ?_
    refine bt_put4 dX5_place_61 fl_X5_106 (by first | assumption | exact J.v3 | exact J.v4 | exact J.v5 | exact J.v6 | exact J.l0 | exact J.l1 | exact J.l2 | exact J.l3 | exact J.row (by assumption) | exact J.ops (by assumption) | exact J.job (by assumption)) rfl (by decide) (by first | rfl | decide) (by first | rfl | decide) ?_
    refine bq_aload_n (i := 0) dX5_place_64 rfl ?_
    refine bt_get3 (c' := 4) (n := 0) dX5_place_65 fl_X5_12 (by first | assumption | exact J.v3 | exact J.v4 | exact J.v5 | exact J.v6 | exact J.l0 | exact J.l1 | exact J.l2 | exact J.l3 | exact J.row (by assumption) | exact J.ops (by assumption) | exact J.job (by assumption)) ⟨rfl, rfl, rfl⟩ (by decide) ?_
    refine bt_callVr (c := 4) (i := 0) dX5_place_68 rfl ml_X5_72 (by first | assumption | exact J.v3 | exact J.v4 | exact J.v5 | exact J.v6 | exact J.l0 | exact J.l1 | exact J.l2 | exact J.l3 | exact J.row (by assumption) | exact J.ops (by assumption) | exact J.job (by assumption)) (by decide) (c_all (J2.sg (by decide)) (⟨hS.2.1, hS.2.2.2.1, hS.nd, hc2⟩ : b_H0 (bt_gs σ 0 r 3 (nI 1)) (b_place σ x (σ.2.2 (8 + r))))) (by decide) (by decide) (Nat.le_of_ble_eq_true rfl) rfl ?_
    refine bq_pop dX5_place_71 rfl ?_
    refine bq_aload_n (i := 0) dX5_place_72 rfl ?_
    refine bt_get3 (c' := 4) (n := 0) dX5_place_73 fl_X5_12 (by first | assumption | exact J.v3 | exact J.v4 | exact J.v5 | exact J.v6 | exact J.l0 | exact J.l1 | exact J.l2 | exact J.l3 | exact J.row (by assumption) | exact J.ops (by assumption) | exact J.job (by assumption)) ⟨rfl, rfl, rfl⟩ (by decide) ?_
    refine bt_get0 dX5_place_76 fl_X5_76 (by first | assumption | exact J.v3 | exact J.v4 | exact J.v5 | exact J.v6 | exact J.l0 | exact J.l1 | exact J.l2 | exact J.l3 | exact J.row (by assumption) | exact J.ops (by assumption) | exact J.job (by assumption)) rfl (by decide) ?_
    exact bq_iret dX5_place_79 rfl (by first | rfl | decide) (by subst hF; exact ⟨rfl, rfl⟩)
set_option maxRecDepth 100000 in
set_option maxHeartbeats 400000 in
theorem k_rush {G : bp_X} {α : bt_A} {σ x : bt_X} {a : Int32} (h : b_Ok α σ x) (hroom : bt_us α + 7 ≤ bp_max) (hcnt : ∀ j, b_wj σ a = .inl j → b_cnt x (σ.2.2 0) + b_np σ j ≤ 32) : bq_S G mX5_rush 11 [.ref (bt_ad α 5 0), .int a] (bt α σ x) (b_end α (b_rshF σ x a)) := by
  have J := h.J
  have hS := h.S
  obtain ⟨F, hF⟩ : ∃ F, b_rshF σ x a = F := ⟨_, rfl⟩
  rw [hF]
  refine bq_ofW (by decide +kernel) rfl (Nat.le_of_ble_eq_true rfl) ?_
  unfold b_rshF at hF
  cases e1 : b_wj σ a with
  | inr E =>
    rw [e1] at hF
    simp only [] at hF
    refine bq_aload_n (i := 0) dX5_rush_0 rfl ?_
    refine bq_iload_n (i := 1) dX5_rush_1 rfl ?_
    exact bt_callVe (c := 5) (i := 0) dX5_rush_2 rfl ml_X5_140 J.v5 (by decide) (c_wjN J hS e1 hroom) (by decide) (by decide) (Nat.le_of_ble_eq_true rfl) rfl rfl (by subst hF; exact ⟨rfl, rfl⟩)
  | inl r =>
    rw [e1] at hF
    simp only [] at hF
    obtain ⟨hj, hpl, hnp⟩ := b_wj_n hS e1
    have hVj := h.V0 hj
    have hp4 := (hS.2.2.2.2 r hj).2
    refine bq_aload_n (i := 0) dX5_rush_0 rfl ?_
    refine bq_iload_n (i := 1) dX5_rush_1 rfl ?_
    refine bt_callVr (c := 5) (i := 0) dX5_rush_2 rfl ml_X5_140 (by first | assumption | exact J.v3 | exact J.v4 | exact J.v5 | exact J.v6 | exact J.l0 | exact J.l1 | exact J.l2 | exact J.l3 | exact J.row (by assumption) | exact J.ops (by assumption) | exact J.job (by assumption)) (by decide) (c_wjS J hS e1) (by decide) (by decide) (Nat.le_of_ble_eq_true rfl) rfl ?_
    refine bq_astore_n (i := 2) dX5_rush_5 (by decide) ?_
    refine bq_iconst (v := (nI 0)) dX5_rush_6 (by decide) ?_
    refine bq_istore_n (i := 3) dX5_rush_7 (by decide) ?_
    refine bq_lvs (lv' := [(0, .ref (bt_ad α 5 0)), (2, .ref (bt_ad α 0 r)), (3, .int (nI 0))]) ⟨rfl, rfl, rfl, trivial⟩ ?_
    refine c_rush_l hS h.v1m (h.2.2.2.2.2.1 r hj) hp4 hVj _ x 0 J (hcnt r e1) (by omega) rfl (fun J2 hc2 => ?_)
    refine bq_aload_n (i := 2) dX5_rush_43 rfl ?_
    refine bq_iconst (v := (nI 1)) dX5_rush_44 (by decide) ?_
    refine bt_put4 dX5_rush_45 fl_X5_106 (by first | assumption | exact J.v3 | exact J.v4 | exact J.v5 | exact J.v6 | exact J.l0 | exact J.l1 | exact J.l2 | exact J.l3 | exact J.row (by assumption) | exact J.ops (by assumption) | exact J.job (by assumption)) rfl (by decide) (by first | rfl | decide) (by first | rfl | decide) ?_
    refine bq_aload_n (i := 0) dX5_rush_48 rfl ?_
    refine bt_get3 (c' := 4) (n := 0) dX5_rush_49 fl_X5_12 (by first | assumption | exact J.v3 | exact J.v4 | exact J.v5 | exact J.v6 | exact J.l0 | exact J.l1 | exact J.l2 | exact J.l3 | exact J.row (by assumption) | exact J.ops (by assumption) | exact J.job (by assumption)) ⟨rfl, rfl, rfl⟩ (by decide) ?_
    refine bt_callVr (c := 4) (i := 0) dX5_rush_52 rfl ml_X5_72 (by first | assumption | exact J.v3 | exact J.v4 | exact J.v5 | exact J.v6 | exact J.l0 | exact J.l1 | exact J.l2 | exact J.l3 | exact J.row (by assumption) | exact J.ops (by assumption) | exact J.job (by assumption)) (by decide) (c_all (J2.sg (by decide)) (⟨hS.2.1, hS.2.2.2.1, hS.nd, hc2⟩ : b_H0 (bt_gs σ 0 r 3 (nI 1)) (b_rush σ x (σ.2.2 (8 + r))))) (by decide) (by decide) (Nat.le_of_ble_eq_true rfl) rfl ?_
    refine bq_pop dX5_rush_55 rfl ?_
    refine bq_aload_n (i := 0) dX5_rush_56 rfl ?_
    refine bt_get3 (c' := 4) (n := 0) dX5_rush_57 fl_X5_12 (by first | assumption | exact J.v3 | exact J.v4 | exact J.v5 | exact J.v6 | exact J.l0 | exact J.l1 | exact J.l2 | exact J.l3 | exact J.row (by assumption) | exact J.ops (by assumption) | exact J.job (by assumption)) ⟨rfl, rfl, rfl⟩ (by decide) ?_
    refine bt_get0 dX5_rush_60 fl_X5_76 (by first | assumption | exact J.v3 | exact J.v4 | exact J.v5 | exact J.v6 | exact J.l0 | exact J.l1 | exact J.l2 | exact J.l3 | exact J.row (by assumption) | exact J.ops (by assumption) | exact J.job (by assumption)) rfl (by decide) ?_
    exact bq_iret dX5_rush_63 rfl (by first | rfl | decide) (by subst hF; exact ⟨rfl, rfl⟩)
set_option maxRecDepth 100000 in
set_option maxHeartbeats 400000 in
theorem k_rem {G : bp_X} {α : bt_A} {σ x : bt_X} {a : Int32} (h : b_Ok α σ x) (hroom : bt_us α + 7 ≤ bp_max)  : bq_S G mX5_remove 10 [.ref (bt_ad α 5 0), .int a] (bt α σ x) (b_end α (b_remF σ x a)) := by
  have J := h.J
  have hS := h.S
  obtain ⟨F, hF⟩ : ∃ F, b_remF σ x a = F := ⟨_, rfl⟩
  rw [hF]
  refine bq_ofW (by decide +kernel) rfl (Nat.le_of_ble_eq_true rfl) ?_
  unfold b_remF at hF
  cases e1 : b_pj σ a with
  | inr E =>
    rw [e1] at hF
    simp only [] at hF
    refine bq_aload_n (i := 0) dX5_remove_0 rfl ?_
    refine bq_iload_n (i := 1) dX5_remove_1 rfl ?_
    exact bt_callVe (c := 5) (i := 0) dX5_remove_2 rfl ml_X5_164 J.v5 (by decide) (c_pjN J hS e1 hroom) (by decide) (by decide) (Nat.le_of_ble_eq_true rfl) rfl rfl (by subst hF; exact ⟨rfl, rfl⟩)
  | inl r =>
    rw [e1] at hF
    simp only [] at hF
    obtain ⟨hj, hpl⟩ := b_pj_n hS e1
    have hVj := h.V0 hj
    have hp4 := (hS.2.2.2.2 r hj).2
    refine bq_aload_n (i := 0) dX5_remove_0 rfl ?_
    refine bq_iload_n (i := 1) dX5_remove_1 rfl ?_
    refine bt_callVr (c := 5) (i := 0) dX5_remove_2 rfl ml_X5_164 (by first | assumption | exact J.v3 | exact J.v4 | exact J.v5 | exact J.v6 | exact J.l0 | exact J.l1 | exact J.l2 | exact J.l3 | exact J.row (by assumption) | exact J.ops (by assumption) | exact J.job (by assumption)) (by decide) (c_pjS J hS e1) (by decide) (by decide) (Nat.le_of_ble_eq_true rfl) rfl ?_
    refine bq_astore_n (i := 2) dX5_remove_5 (by decide) ?_
    refine bq_iconst (v := (nI 0)) dX5_remove_6 (by decide) ?_
    refine bq_istore_n (i := 3) dX5_remove_7 (by decide) ?_
    refine bq_lvs (lv' := [(0, .ref (bt_ad α 5 0)), (2, .ref (bt_ad α 0 r)), (3, .int (nI 0))]) ⟨rfl, rfl, rfl, trivial⟩ ?_
    refine c_rem_l hS h.2.2.2.1 hVj _ x 0 J h.2.2.1 (by omega) rfl (fun J2 hc2 => ?_)
    refine bq_aload_n (i := 2) dX5_remove_46 rfl ?_
    refine bq_iconst (v := (nI 0)) dX5_remove_47 (by decide) ?_
    refine bt_put4 dX5_remove_48 fl_X5_106 (by first | assumption | exact J.v3 | exact J.v4 | exact J.v5 | exact J.v6 | exact J.l0 | exact J.l1 | exact J.l2 | exact J.l3 | exact J.row (by assumption) | exact J.ops (by assumption) | exact J.job (by assumption)) rfl (by decide) (by first | rfl | decide) (by first | rfl | decide) ?_
    refine bq_aload_n (i := 0) dX5_remove_51 rfl ?_
    refine bt_get3 (c' := 4) (n := 0) dX5_remove_52 fl_X5_12 (by first | assumption | exact J.v3 | exact J.v4 | exact J.v5 | exact J.v6 | exact J.l0 | exact J.l1 | exact J.l2 | exact J.l3 | exact J.row (by assumption) | exact J.ops (by assumption) | exact J.job (by assumption)) ⟨rfl, rfl, rfl⟩ (by decide) ?_
    refine bt_callVr (c := 4) (i := 0) dX5_remove_55 rfl ml_X5_72 (by first | assumption | exact J.v3 | exact J.v4 | exact J.v5 | exact J.v6 | exact J.l0 | exact J.l1 | exact J.l2 | exact J.l3 | exact J.row (by assumption) | exact J.ops (by assumption) | exact J.job (by assumption)) (by decide) (c_all (J2.sg (by decide)) (⟨hS.2.1, hS.2.2.2.1, hS.nd, hc2⟩ : b_H0 (bt_gs σ 0 r 3 (nI 0)) (b_rem r x (σ.2.2 0)))) (by decide) (by decide) (Nat.le_of_ble_eq_true rfl) rfl ?_
    refine bq_pop dX5_remove_58 rfl ?_
    refine bq_aload_n (i := 0) dX5_remove_59 rfl ?_
    refine bt_get3 (c' := 4) (n := 0) dX5_remove_60 fl_X5_12 (by first | assumption | exact J.v3 | exact J.v4 | exact J.v5 | exact J.v6 | exact J.l0 | exact J.l1 | exact J.l2 | exact J.l3 | exact J.row (by assumption) | exact J.ops (by assumption) | exact J.job (by assumption)) ⟨rfl, rfl, rfl⟩ (by decide) ?_
    refine bt_get0 dX5_remove_63 fl_X5_76 (by first | assumption | exact J.v3 | exact J.v4 | exact J.v5 | exact J.v6 | exact J.l0 | exact J.l1 | exact J.l2 | exact J.l3 | exact J.row (by assumption) | exact J.ops (by assumption) | exact J.job (by assumption)) rfl (by decide) ?_
    exact bq_iret dX5_remove_66 rfl (by first | rfl | decide) (by subst hF; exact ⟨rfl, rfl⟩)
set_option maxRecDepth 100000 in
set_option maxHeartbeats 400000 in
theorem k_swp {G : bp_X} {α : bt_A} {σ x : bt_X} {a p : Int32} (h : b_Ok α σ x) (hroom : bt_us α + 7 ≤ bp_max)  : bq_S G mX5_swap 10 [.ref (bt_ad α 5 0), .int a, .int p] (bt α σ x) (b_end α (b_swpF σ x a p)) := by
  have J := h.J
  have hS := h.S
  obtain ⟨F, hF⟩ : ∃ F, b_swpF σ x a p = F := ⟨_, rfl⟩
  rw [hF]
  refine bq_ofW (by decide +kernel) rfl (Nat.le_of_ble_eq_true rfl) ?_
  unfold b_swpF at hF
  cases e1 : b_ix (b_nm σ) a with
  | none =>
    rw [e1] at hF
    simp only [] at hF
    refine bq_aload_n (i := 0) dX5_swap_0 rfl ?_
    refine bq_iload_n (i := 1) dX5_swap_1 rfl ?_
    exact bt_callVe (c := 5) (i := 0) dX5_swap_2 rfl ml_X5_40 J.v5 (by decide) (c_kmN J e1 hroom) (by decide) (by decide) (Nat.le_of_ble_eq_true rfl) rfl rfl (by subst hF; exact ⟨rfl, rfl⟩)
  | some m =>
    rw [e1] at hF
    simp only [] at hF
    have hb := hS.2.1
    obtain ⟨ea, hmn, -, -⟩ := b_ix_s (by omega) e1
    have hV := h.V1 hmn
    have hm := J.m4 hV
    have hrow := h.row hmn
    refine bq_aload_n (i := 0) dX5_swap_0 rfl ?_
    refine bq_iload_n (i := 1) dX5_swap_1 rfl ?_
    refine bt_callVr (c := 5) (i := 0) dX5_swap_2 rfl ml_X5_40 (by first | assumption | exact J.v3 | exact J.v4 | exact J.v5 | exact J.v6 | exact J.l0 | exact J.l1 | exact J.l2 | exact J.l3 | exact J.row (by assumption) | exact J.ops (by assumption) | exact J.job (by assumption)) (by decide) (c_kmS J hS e1) (by decide) (by decide) (Nat.le_of_ble_eq_true rfl) rfl ?_
    refine bq_astore_n (i := 3) dX5_swap_5 (by decide) ?_
    refine bq_iload_n (i := 2) dX5_swap_6 rfl ?_
    refine bq_if_lt (tgt := 23) dX5_swap_7 (by decide) (fun c_7 => ?_) (fun c_7 => ?_)
    · rw [if_pos c_7] at hF
      exact bq_throw dX5_swap_23 dX5_swap_26 dX5_swap_27 dX5_swap_29 dX5_swap_32 tw_123_171_127 rfl (by decide) (Nat.le_of_ble_eq_true rfl) hroom (by subst hF; exact ⟨rfl, rfl⟩)
    · rw [if_neg c_7] at hF
      refine bq_iload_n (i := 2) dX5_swap_10 rfl ?_
      refine bq_aload_n (i := 3) dX5_swap_11 rfl ?_
      refine bt_get3 (c' := 7) (n := (4 + m)) dX5_swap_12 fl_X5_153 (by first | assumption | exact J.v3 | exact J.v4 | exact J.v5 | exact J.v6 | exact J.l0 | exact J.l1 | exact J.l2 | exact J.l3 | exact J.row (by assumption) | exact J.ops (by assumption) | exact J.job (by assumption)) ⟨rfl, rfl, rfl⟩ (by decide) ?_
      refine bt_size dX5_swap_15 ml_X5_20 (by first | assumption | exact J.v3 | exact J.v4 | exact J.v5 | exact J.v6 | exact J.l0 | exact J.l1 | exact J.l2 | exact J.l3 | exact J.row (by assumption) | exact J.ops (by assumption) | exact J.job (by assumption)) (bt_lv (bt_sl_row (by assumption))) (by decide) (Nat.le_of_ble_eq_true rfl) ?_
      refine bq_iconst (v := (nI 1)) dX5_swap_18 (by decide) ?_
      refine bq_isub dX5_swap_19 ?_
      refine bq_icmp_lt (tgt := 33) dX5_swap_20 (by decide) (fun c_20 => ?_) (fun c_20 => ?_)
      · rw [if_pos (show p < nI (x.2.2 (4 + m)).length - nI 1 from c_20)] at hF
        obtain ⟨p1, p2⟩ := b_sub_lt (by omega) c_7 (show p < nI (x.2.2 (4 + m)).length - nI 1 from c_20)
        have hrV := h.2.2.2.2.2.2.1 m hmn
        have ga := b_getD (L := x.2.2 (4 + m)) (j := p.toNatClampNeg) (by omega)
        have gb := b_getD (L := x.2.2 (4 + m)) (j := p.toNatClampNeg + 1) p2
        have va := hrV _ (List.mem_of_getElem? ga)
        have vb := hrV _ (List.mem_of_getElem? gb)
        have J1 : bt_J α σ (b_xc x m p.toNatClampNeg) := J.exch hrV va vb
        have cx : b_cnt (b_xc x m p.toNatClampNeg) (σ.2.2 0) ≤ 32 := by
          rw [b_cnt_ext (x := x) (fun m' _ => ?_)]
          · exact h.2.2.1
          · by_cases e : m' = m
            · subst e; unfold b_xc; rw [b_exch_l, b_set_set]
            · unfold b_xc; rw [b_exch_n (by omega)]
        have H1 : b_H0 σ (b_xc x m p.toNatClampNeg) := ⟨hS.2.1, hS.2.2.2.1, hS.nd, cx⟩
        obtain ⟨q1, q2, q3⟩ := b_all_fr H1
        have J2 : bt_J α σ (b_all σ (b_xc x m p.toNatClampNeg)).2 := J1.any q1
        have hr2 : (b_all σ (b_xc x m p.toNatClampNeg)).2.2.2 (4 + m) = ((x.2.2 (4 + m)).set p.toNatClampNeg ((x.2.2 (4 + m)).getD (p.toNatClampNeg + 1) 0)).set (p.toNatClampNeg + 1) ((x.2.2 (4 + m)).getD p.toNatClampNeg 0) := by rw [q2 _ (by omega)]; unfold b_xc; rw [b_exch_l]
        have hl2 : ((b_all σ (b_xc x m p.toNatClampNeg)).2.2.2 (4 + m)).length = (x.2.2 (4 + m)).length := by rw [hr2, b_set_set]
        have hrV2 : ∀ y ∈ (b_all σ (b_xc x m p.toNatClampNeg)).2.2.2 (4 + m), bt_V α 2 y := fun y hy => by
          rw [hr2] at hy
          rcases List.mem_or_eq_of_mem_set hy with hy | rfl
          · rcases List.mem_or_eq_of_mem_set hy with hy | rfl
            · exact hrV y hy
            · exact vb
          · exact va
        have ga2 := b_getD (L := (b_all σ (b_xc x m p.toNatClampNeg)).2.2.2 (4 + m)) (j := p.toNatClampNeg) (by omega)
        have gb2 := b_getD (L := (b_all σ (b_xc x m p.toNatClampNeg)).2.2.2 (4 + m)) (j := p.toNatClampNeg + 1) (by omega)
        have J3 : bt_J α σ (b_xc (b_all σ (b_xc x m p.toNatClampNeg)).2 m p.toNatClampNeg) := J2.exch hrV2 (hrV2 _ (List.mem_of_getElem? ga2)) (hrV2 _ (List.mem_of_getElem? gb2))
        have H2 : b_H0 σ (b_xc (b_all σ (b_xc x m p.toNatClampNeg)).2 m p.toNatClampNeg) := ⟨hS.2.1, hS.2.2.2.1, hS.nd, by
          rw [b_cnt_ext (x := x) (fun m' _ => ?_)]
          · exact h.2.2.1
          · by_cases e : m' = m
            · subst e; unfold b_xc; rw [b_exch_l, b_set_set]; exact hl2
            · unfold b_xc; rw [b_exch_n (by omega)]; show ((b_all σ (b_xc x m p.toNatClampNeg)).2.2.2 (4 + m')).length = _; rw [q2 _ (by omega)]; unfold b_xc; rw [b_exch_n (by omega)]⟩
        rw [p1]
        refine bq_aload_n (i := 3) dX5_swap_33 rfl ?_
        refine bq_iload_n (i := 2) dX5_swap_34 rfl ?_
        refine bt_callVr (c := 1) (i := m) dX5_swap_35 rfl ml_X5_173 (by first | assumption | exact J.v3 | exact J.v4 | exact J.v5 | exact J.v6 | exact J.l0 | exact J.l1 | exact J.l2 | exact J.l3 | exact J.row (by assumption) | exact J.ops (by assumption) | exact J.job (by assumption)) (by decide) (c_exch J hV ga gb (by omega)) (by decide) (by decide) (Nat.le_of_ble_eq_true rfl) rfl ?_
        refine bq_aload_n (i := 0) dX5_swap_38 rfl ?_
        refine bt_get3 (c' := 4) (n := 0) dX5_swap_39 fl_X5_12 (by first | assumption | exact J.v3 | exact J.v4 | exact J.v5 | exact J.v6 | exact J.l0 | exact J.l1 | exact J.l2 | exact J.l3 | exact J.row (by assumption) | exact J.ops (by assumption) | exact J.job (by assumption)) ⟨rfl, rfl, rfl⟩ (by decide) ?_
        refine bt_callVr (c := 4) (i := 0) dX5_swap_42 rfl ml_X5_72 (by first | assumption | exact J.v3 | exact J.v4 | exact J.v5 | exact J.v6 | exact J.l0 | exact J.l1 | exact J.l2 | exact J.l3 | exact J.row (by assumption) | exact J.ops (by assumption) | exact J.job (by assumption)) (by decide) (c_all J1 H1) (by decide) (by decide) (Nat.le_of_ble_eq_true rfl) rfl ?_
        refine bq_if_ne (tgt := 71) dX5_swap_45 (by decide) (fun c_45 => ?_) (fun c_45 => ?_)
        · rw [if_neg (show ¬ (b_all σ (b_xc x m p.toNatClampNeg)).1 = 0 from c_45)] at hF
          refine bq_aload_n (i := 0) dX5_swap_71 rfl ?_
          refine bt_get3 (c' := 4) (n := 0) dX5_swap_72 fl_X5_12 (by first | assumption | exact J.v3 | exact J.v4 | exact J.v5 | exact J.v6 | exact J.l0 | exact J.l1 | exact J.l2 | exact J.l3 | exact J.row (by assumption) | exact J.ops (by assumption) | exact J.job (by assumption)) ⟨rfl, rfl, rfl⟩ (by decide) ?_
          refine bt_get0 dX5_swap_75 fl_X5_76 (by first | assumption | exact J.v3 | exact J.v4 | exact J.v5 | exact J.v6 | exact J.l0 | exact J.l1 | exact J.l2 | exact J.l3 | exact J.row (by assumption) | exact J.ops (by assumption) | exact J.job (by assumption)) rfl (by decide) ?_
          exact bq_iret dX5_swap_78 rfl (by first | rfl | decide) (by subst hF; exact ⟨rfl, rfl⟩)
        · rw [if_pos (show (b_all σ (b_xc x m p.toNatClampNeg)).1 = 0 from c_45)] at hF
          refine bq_aload_n (i := 3) dX5_swap_48 rfl ?_
          refine bq_iload_n (i := 2) dX5_swap_49 rfl ?_
          refine bt_callVr (c := 1) (i := m) dX5_swap_50 rfl ml_X5_173 (by first | assumption | exact J.v3 | exact J.v4 | exact J.v5 | exact J.v6 | exact J.l0 | exact J.l1 | exact J.l2 | exact J.l3 | exact J.row (by assumption) | exact J.ops (by assumption) | exact J.job (by assumption)) (by decide) (c_exch (x := (b_all σ (b_xc x m p.toNatClampNeg)).2) J2 hV ga2 gb2 (show ((b_all σ (b_xc x m p.toNatClampNeg)).2.2.2 (4 + m)).length ≤ 33 by omega)) (by decide) (by decide) (Nat.le_of_ble_eq_true rfl) rfl ?_
          refine bq_aload_n (i := 0) dX5_swap_53 rfl ?_
          refine bt_get3 (c' := 4) (n := 0) dX5_swap_54 fl_X5_12 (by first | assumption | exact J.v3 | exact J.v4 | exact J.v5 | exact J.v6 | exact J.l0 | exact J.l1 | exact J.l2 | exact J.l3 | exact J.row (by assumption) | exact J.ops (by assumption) | exact J.job (by assumption)) ⟨rfl, rfl, rfl⟩ (by decide) ?_
          refine bt_callVr (c := 4) (i := 0) dX5_swap_57 rfl ml_X5_72 (by first | assumption | exact J.v3 | exact J.v4 | exact J.v5 | exact J.v6 | exact J.l0 | exact J.l1 | exact J.l2 | exact J.l3 | exact J.row (by assumption) | exact J.ops (by assumption) | exact J.job (by assumption)) (by decide) (c_all J3 H2) (by decide) (by decide) (Nat.le_of_ble_eq_true rfl) rfl ?_
          refine bq_pop dX5_swap_60 rfl ?_
          exact bq_throw dX5_swap_61 dX5_swap_64 dX5_swap_65 dX5_swap_67 dX5_swap_70 tw_26_177_30 rfl (by decide) (Nat.le_of_ble_eq_true rfl) hroom (by subst hF; exact ⟨rfl, rfl⟩)
      · rw [if_neg (show ¬ p < nI (x.2.2 (4 + m)).length - nI 1 from c_20)] at hF
        exact bq_throw dX5_swap_23 dX5_swap_26 dX5_swap_27 dX5_swap_29 dX5_swap_32 tw_123_171_127 rfl (by decide) (Nat.le_of_ble_eq_true rfl) hroom (by subst hF; exact ⟨rfl, rfl⟩)
