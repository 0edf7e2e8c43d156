/-! ===== place, rush, remove, swap: their contracts ===== -/
set_option maxRecDepth 100000 in
set_option maxHeartbeats 400000 in
theorem k_place {G : bp_X} {α : bt_A} {σ x : bt_X} {a : Int32} (h : b_Ok α σ x) (hroom : bt_us α + 7 ≤ bp_max) (hcnt : ∀ j, b_wj σ a = .inl j → b_cnt x (σ.2.2 0) + b_np σ j ≤ 32) : bq_S G mX5_place 10 [.ref (bt_ad α 5 0), .int a] (bt α σ x) (b_end α (b_plcF σ x a)) := by
  have J := h.J
  have hS := h.S
  obtain ⟨F, hF⟩ : ∃ F, b_plcF σ x a = F := ⟨_, rfl⟩
  rw [hF]
  refine bq_ofW (by decide +kernel) rfl (Nat.le_of_ble_eq_true rfl) ?_
  unfold b_plcF at hF
  cases e1 : b_wj σ a with
  | inr E =>
    rw [e1] at hF
    simp only [] at hF
    refine bq_aload_n (i := 0) dX5_place_0 rfl ?_
    refine bq_iload_n (i := 1) dX5_place_1 rfl ?_
    exact bt_callVe (c := 5) (i := 0) dX5_place_2 rfl ml_X5_140 J.v5 (by decide) (c_wjN J hS e1 hroom) (by decide) (by decide) (Nat.le_of_ble_eq_true rfl) rfl rfl (by subst hF; exact ⟨rfl, rfl⟩)
  | inl r =>
    rw [e1] at hF
    simp only [] at hF
    obtain ⟨hj, hpl, hnp⟩ := b_wj_n hS e1
    have hVj := h.V0 hj
    have hp4 := (hS.2.2.2.2 r hj).2
    refine bq_aload_n (i := 0) dX5_place_0 rfl ?_
    refine bq_iload_n (i := 1) dX5_place_1 rfl ?_
    refine bt_callVr (c := 5) (i := 0) dX5_place_2 rfl ml_X5_140 (by first | assumption | exact J.v3 | exact J.v4 | exact J.v5 | exact J.v6 | exact J.l0 | exact J.l1 | exact J.l2 | exact J.l3 | exact J.row (by assumption) | exact J.ops (by assumption) | exact J.job (by assumption)) (by decide) (c_wjS J hS e1) (by decide) (by decide) (Nat.le_of_ble_eq_true rfl) rfl ?_
    refine bq_astore_n (i := 2) dX5_place_5 (by decide) ?_
    refine bq_iconst (v := (nI 0)) dX5_place_6 (by decide) ?_
    refine bq_istore_n (i := 3) dX5_place_7 (by decide) ?_
    refine bq_lvs (lv' := [(0, .ref (bt_ad α 5 0)), (2, .ref (bt_ad α 0 r)), (3, .int (nI 0))]) ⟨rfl, rfl, rfl, trivial⟩ ?_
    refine c_place_l hS h.v1m (h.2.2.2.2.2.1 r hj) hp4 hVj _ x 0 J (hcnt r e1) (by omega) rfl (fun J2 hc2 => ?_)
    refine bq_aload_n (i := 2) dX5_place_59 rfl ?_
    refine bq_iconst (v := (nI 1)) dX5_place_60 (by decide) ?_
    refine bt_put4 dX5_place_61 fl_X5_106 (by first | assumption | exact J.v3 | exact J.v4 | exact J.v5 | exact J.v6 | exact J.l0 | exact J.l1 | exact J.l2 | exact J.l3 | exact J.row (by assumption) | exact J.ops (by assumption) | exact J.job (by assumption)) rfl (by decide) (by first | rfl | decide) (by first | rfl | decide) ?_
    refine bq_aload_n (i := 0) dX5_place_64 rfl ?_
    refine bt_get3 (c' := 4) (n := 0) dX5_place_65 fl_X5_12 (by first | assumption | exact J.v3 | exact J.v4 | exact J.v5 | exact J.v6 | exact J.l0 | exact J.l1 | exact J.l2 | exact J.l3 | exact J.row (by assumption) | exact J.ops (by assumption) | exact J.job (by assumption)) ⟨rfl, rfl, rfl⟩ (by decide) ?_
    refine bt_callVr (c := 4) (i := 0) dX5_place_68 rfl ml_X5_72 (by first | assumption | exact J.v3 | exact J.v4 | exact J.v5 | exact J.v6 | exact J.l0 | exact J.l1 | exact J.l2 | exact J.l3 | exact J.row (by assumption) | exact J.ops (by assumption) | exact J.job (by assumption)) (by decide) (c_all (J2.sg (by decide)) (⟨hS.2.1, hS.2.2.2.1, hS.nd, hc2⟩ : b_H0 (bt_gs σ 0 r 3 (nI 1)) (b_place σ x (σ.2.2 (8 + r))))) (by decide) (by decide) (Nat.le_of_ble_eq_true rfl) rfl ?_
    refine bq_pop dX5_place_71 rfl ?_
    refine bq_aload_n (i := 0) dX5_place_72 rfl ?_
    refine bt_get3 (c' := 4) (n := 0) dX5_place_73 fl_X5_12 (by first | assumption | exact J.v3 | exact J.v4 | exact J.v5 | exact J.v6 | exact J.l0 | exact J.l1 | exact J.l2 | exact J.l3 | exact J.row (by assumption) | exact J.ops (by assumption) | exact J.job (by assumption)) ⟨rfl, rfl, rfl⟩ (by decide) ?_
    refine bt_get0 dX5_place_76 fl_X5_76 (by first | assumption | exact J.v3 | exact J.v4 | exact J.v5 | exact J.v6 | exact J.l0 | exact J.l1 | exact J.l2 | exact J.l3 | exact J.row (by assumption) | exact J.ops (by assumption) | exact J.job (by assumption)) rfl (by decide) ?_
    exact bq_iret dX5_place_79 rfl (by first | rfl | decide) (by subst hF; exact ⟨rfl, rfl⟩)
set_option maxRecDepth 100000 in
set_option maxHeartbeats 400000 in
theorem k_rush {G : bp_X} {α : bt_A} {σ x : bt_X} {a : Int32} (h : b_Ok α σ x) (hroom : bt_us α + 7 ≤ bp_max) (hcnt : ∀ j, b_wj σ a = .inl j → b_cnt x (σ.2.2 0) + b_np σ j ≤ 32) : bq_S G mX5_rush 11 [.ref (bt_ad α 5 0), .int a] (bt α σ x) (b_end α (b_rshF σ x a)) := by
  have J := h.J
  have hS := h.S
  obtain ⟨F, hF⟩ : ∃ F, b_rshF σ x a = F := ⟨_, rfl⟩
  rw [hF]
  refine bq_ofW (by decide +kernel) rfl (Nat.le_of_ble_eq_true rfl) ?_
  unfold b_rshF at hF
  cases e1 : b_wj σ a with
  | inr E =>
    rw [e1] at hF
    simp only [] at hF
    refine bq_aload_n (i := 0) dX5_rush_0 rfl ?_
    refine bq_iload_n (i := 1) dX5_rush_1 rfl ?_
    exact bt_callVe (c := 5) (i := 0) dX5_rush_2 rfl ml_X5_140 J.v5 (by decide) (c_wjN J hS e1 hroom) (by decide) (by decide) (Nat.le_of_ble_eq_true rfl) rfl rfl (by subst hF; exact ⟨rfl, rfl⟩)
  | inl r =>
    rw [e1] at hF
    simp only [] at hF
    obtain ⟨hj, hpl, hnp⟩ := b_wj_n hS e1
    have hVj := h.V0 hj
    have hp4 := (hS.2.2.2.2 r hj).2
    refine bq_aload_n (i := 0) dX5_rush_0 rfl ?_
    refine bq_iload_n (i := 1) dX5_rush_1 rfl ?_
    refine bt_callVr (c := 5) (i := 0) dX5_rush_2 rfl ml_X5_140 (by first | assumption | exact J.v3 | exact J.v4 | exact J.v5 | exact J.v6 | exact J.l0 | exact J.l1 | exact J.l2 | exact J.l3 | exact J.row (by assumption) | exact J.ops (by assumption) | exact J.job (by assumption)) (by decide) (c_wjS J hS e1) (by decide) (by decide) (Nat.le_of_ble_eq_true rfl) rfl ?_
    refine bq_astore_n (i := 2) dX5_rush_5 (by decide) ?_
    refine bq_iconst (v := (nI 0)) dX5_rush_6 (by decide) ?_
    refine bq_istore_n (i := 3) dX5_rush_7 (by decide) ?_
    refine bq_lvs (lv' := [(0, .ref (bt_ad α 5 0)), (2, .ref (bt_ad α 0 r)), (3, .int (nI 0))]) ⟨rfl, rfl, rfl, trivial⟩ ?_
    refine c_rush_l hS h.v1m (h.2.2.2.2.2.1 r hj) hp4 hVj _ x 0 J (hcnt r e1) (by omega) rfl (fun J2 hc2 => ?_)
    refine bq_aload_n (i := 2) dX5_rush_43 rfl ?_
    refine bq_iconst (v := (nI 1)) dX5_rush_44 (by decide) ?_
    refine bt_put4 dX5_rush_45 fl_X5_106 (by first | assumption | exact J.v3 | exact J.v4 | exact J.v5 | exact J.v6 | exact J.l0 | exact J.l1 | exact J.l2 | exact J.l3 | exact J.row (by assumption) | exact J.ops (by assumption) | exact J.job (by assumption)) rfl (by decide) (by first | rfl | decide) (by first | rfl | decide) ?_
    refine bq_aload_n (i := 0) dX5_rush_48 rfl ?_
    refine bt_get3 (c' := 4) (n := 0) dX5_rush_49 fl_X5_12 (by first | assumption | exact J.v3 | exact J.v4 | exact J.v5 | exact J.v6 | exact J.l0 | exact J.l1 | exact J.l2 | exact J.l3 | exact J.row (by assumption) | exact J.ops (by assumption) | exact J.job (by assumption)) ⟨rfl, rfl, rfl⟩ (by decide) ?_
    refine bt_callVr (c := 4) (i := 0) dX5_rush_52 rfl ml_X5_72 (by first | assumption | exact J.v3 | exact J.v4 | exact J.v5 | exact J.v6 | exact J.l0 | exact J.l1 | exact J.l2 | exact J.l3 | exact J.row (by assumption) | exact J.ops (by assumption) | exact J.job (by assumption)) (by decide) (c_all (J2.sg (by decide)) (⟨hS.2.1, hS.2.2.2.1, hS.nd, hc2⟩ : b_H0 (bt_gs σ 0 r 3 (nI 1)) (b_rush σ x (σ.2.2 (8 + r))))) (by decide) (by decide) (Nat.le_of_ble_eq_true rfl) rfl ?_
    refine bq_pop dX5_rush_55 rfl ?_
    refine bq_aload_n (i := 0) dX5_rush_56 rfl ?_
    refine bt_get3 (c' := 4) (n := 0) dX5_rush_57 fl_X5_12 (by first | assumption | exact J.v3 | exact J.v4 | exact J.v5 | exact J.v6 | exact J.l0 | exact J.l1 | exact J.l2 | exact J.l3 | exact J.row (by assumption) | exact J.ops (by assumption) | exact J.job (by assumption)) ⟨rfl, rfl, rfl⟩ (by decide) ?_
    refine bt_get0 dX5_rush_60 fl_X5_76 (by first | assumption | exact J.v3 | exact J.v4 | exact J.v5 | exact J.v6 | exact J.l0 | exact J.l1 | exact J.l2 | exact J.l3 | exact J.row (by assumption) | exact J.ops (by assumption) | exact J.job (by assumption)) rfl (by decide) ?_
    exact bq_iret dX5_rush_63 rfl (by first | rfl | decide) (by subst hF; exact ⟨rfl, rfl⟩)
set_option maxRecDepth 100000 in
set_option maxHeartbeats 400000 in
theorem k_rem {G : bp_X} {α : bt_A} {σ x : bt_X} {a : Int32} (h : b_Ok α σ x) (hroom : bt_us α + 7 ≤ bp_max)  : bq_S G mX5_remove 10 [.ref (bt_ad α 5 0), .int a] (bt α σ x) (b_end α (b_remF σ x a)) := by
  have J := h.J
  have hS := h.S
  obtain ⟨F, hF⟩ : ∃ F, b_remF σ x a = F := ⟨_, rfl⟩
  rw [hF]
  refine bq_ofW (by decide +kernel) rfl (Nat.le_of_ble_eq_true rfl) ?_
  unfold b_remF at hF
  cases e1 : b_pj σ a with
  | inr E =>
    rw [e1] at hF
    simp only [] at hF
    refine bq_aload_n (i := 0) dX5_remove_0 rfl ?_
    refine bq_iload_n (i := 1) dX5_remove_1 rfl ?_
    exact bt_callVe (c := 5) (i := 0) dX5_remove_2 rfl ml_X5_164 J.v5 (by decide) (c_pjN J hS e1 hroom) (by decide) (by decide) (Nat.le_of_ble_eq_true rfl) rfl rfl (by subst hF; exact ⟨rfl, rfl⟩)
  | inl r =>
    rw [e1] at hF
    simp only [] at hF
    obtain ⟨hj, hpl⟩ := b_pj_n hS e1
    have hVj := h.V0 hj
    have hp4 := (hS.2.2.2.2 r hj).2
    refine bq_aload_n (i := 0) dX5_remove_0 rfl ?_
    refine bq_iload_n (i := 1) dX5_remove_1 rfl ?_
    refine bt_callVr (c := 5) (i := 0) dX5_remove_2 rfl ml_X5_164 (by first | assumption | exact J.v3 | exact J.v4 | exact J.v5 | exact J.v6 | exact J.l0 | exact J.l1 | exact J.l2 | exact J.l3 | exact J.row (by assumption) | exact J.ops (by assumption) | exact J.job (by assumption)) (by decide) (c_pjS J hS e1) (by decide) (by decide) (Nat.le_of_ble_eq_true rfl) rfl ?_
    refine bq_astore_n (i := 2) dX5_remove_5 (by decide) ?_
    refine bq_iconst (v := (nI 0)) dX5_remove_6 (by decide) ?_
    refine bq_istore_n (i := 3) dX5_remove_7 (by decide) ?_
    refine bq_lvs (lv' := [(0, .ref (bt_ad α 5 0)), (2, .ref (bt_ad α 0 r)), (3, .int (nI 0))]) ⟨rfl, rfl, rfl, trivial⟩ ?_
    refine c_rem_l hS h.2.2.2.1 hVj _ x 0 J h.2.2.1 (by omega) rfl (fun J2 hc2 => ?_)
    refine bq_aload_n (i := 2) dX5_remove_46 rfl ?_
    refine bq_iconst (v := (nI 0)) dX5_remove_47 (by decide) ?_
    refine bt_put4 dX5_remove_48 fl_X5_106 (by first | assumption | exact J.v3 | exact J.v4 | exact J.v5 | exact J.v6 | exact J.l0 | exact J.l1 | exact J.l2 | exact J.l3 | exact J.row (by assumption) | exact J.ops (by assumption) | exact J.job (by assumption)) rfl (by decide) (by first | rfl | decide) (by first | rfl | decide) ?_
    refine bq_aload_n (i := 0) dX5_remove_51 rfl ?_
    refine bt_get3 (c' := 4) (n := 0) dX5_remove_52 fl_X5_12 (by first | assumption | exact J.v3 | exact J.v4 | exact J.v5 | exact J.v6 | exact J.l0 | exact J.l1 | exact J.l2 | exact J.l3 | exact J.row (by assumption) | exact J.ops (by assumption) | exact J.job (by assumption)) ⟨rfl, rfl, rfl⟩ (by decide) ?_
    refine bt_callVr (c := 4) (i := 0) dX5_remove_55 rfl ml_X5_72 (by first | assumption | exact J.v3 | exact J.v4 | exact J.v5 | exact J.v6 | exact J.l0 | exact J.l1 | exact J.l2 | exact J.l3 | exact J.row (by assumption) | exact J.ops (by assumption) | exact J.job (by assumption)) (by decide) (c_all (J2.sg (by decide)) (⟨hS.2.1, hS.2.2.2.1, hS.nd, hc2⟩ : b_H0 (bt_gs σ 0 r 3 (nI 0)) (b_rem r x (σ.2.2 0)))) (by decide) (by decide) (Nat.le_of_ble_eq_true rfl) rfl ?_
    refine bq_pop dX5_remove_58 rfl ?_
    refine bq_aload_n (i := 0) dX5_remove_59 rfl ?_
    refine bt_get3 (c' := 4) (n := 0) dX5_remove_60 fl_X5_12 (by first | assumption | exact J.v3 | exact J.v4 | exact J.v5 | exact J.v6 | exact J.l0 | exact J.l1 | exact J.l2 | exact J.l3 | exact J.row (by assumption) | exact J.ops (by assumption) | exact J.job (by assumption)) ⟨rfl, rfl, rfl⟩ (by decide) ?_
    refine bt_get0 dX5_remove_63 fl_X5_76 (by first | assumption | exact J.v3 | exact J.v4 | exact J.v5 | exact J.v6 | exact J.l0 | exact J.l1 | exact J.l2 | exact J.l3 | exact J.row (by assumption) | exact J.ops (by assumption) | exact J.job (by assumption)) rfl (by decide) ?_
    exact bq_iret dX5_remove_66 rfl (by first | rfl | decide) (by subst hF; exact ⟨rfl, rfl⟩)
