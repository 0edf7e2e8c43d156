/-! ===== addOperation ===== -/
def b_apL (σ : bt_X) (o : Nat) : bt_X := if o % 4 = 0 then σ else bt_rs (bt_rs σ 2 o 6 (some (o - 1))) 2 (o - 1) 7 (some o)
def b_apA (y : bt_X) (j o : Nat) : bt_X := bt_lp y (8 + j) (y.2.2 (8 + j) ++ [o])
def b_apM (y : bt_X) (m : Nat) (t : Int32) : bt_X := bt_gs y 1 m 2 (b_max (y.1 1 m 2) (b_bc t))
def b_apS (σ : bt_X) (j n m : Nat) (l f t : Int32) : bt_X := b_apM (b_apA (b_apL (x_oS σ (4 * j + n) m (nI n) l f t) (4 * j + n)) j (4 * j + n)) m t
theorem b_apL_l {σ : bt_X} {o n : Nat} : (b_apL σ o).2.2 n = σ.2.2 n := by
  unfold b_apL
  split <;> rfl
set_option maxRecDepth 100000 in
set_option maxHeartbeats 1000000 in
theorem k_append {G : bp_X} {α : bt_A} {σ x : bt_X} {j m n : Nat} {l f t : Int32} (J : bt_J α σ x) (hj : bt_V α 0 j) (hm : bt_V α 1 m) (hr : σ.2.2 (8 + j) = List.range' (4 * j) n) (hn : n < 4) (hn2 : ¬ bt_V α 2 (4 * j + n)) (hroom : bt_us α + 110 ≤ bp_max) {F : Nat} (hf : f = nI F) (hF : F < 4) :
    bq_S G mX0_append 9 [.ref (bt_ad α 0 j), .ref (bt_ad α 1 m), .int l, .int f, .int t] (bt α σ x) (fun o w' => ∃ q0, o = .inl (some (.int (nI n))) ∧ w' = bt (x_oA α (4 * j + n) q0) (b_apS σ j n m l f t) (x_oX x (4 * j + n))) := by
  have hlen : (σ.2.2 (8 + j)).length = n := by rw [hr, List.length_range']
  have hdiv : (4 * j + n) / 4 = j := by omega
  refine bq_ofW (by decide +kernel) rfl (Nat.le_of_ble_eq_true rfl) ?_
  refine bq_aload_n (i := 0) dX0_append_0 rfl ?_
  refine bt_get3 (c' := 7) (n := (8 + j)) dX0_append_1 fl_X0_19 (by first | assumption | exact J.v3 | exact J.v4 | exact J.v5 | exact J.v6 | exact J.l0 | exact J.l1 | exact J.l2 | exact J.l3 | exact J.row (by assumption) | exact J.ops (by assumption) | exact J.job (by assumption)) ⟨rfl, rfl, rfl⟩ (by decide) ?_
  refine bt_size dX0_append_4 ml_X0_23 (by first | assumption | exact J.v3 | exact J.v4 | exact J.v5 | exact J.v6 | exact J.l0 | exact J.l1 | exact J.l2 | exact J.l3 | exact J.row (by assumption) | exact J.ops (by assumption) | exact J.job (by assumption)) (bt_ls bt_sl_ops) (by decide) (Nat.le_of_ble_eq_true rfl) ?_
  rw [hlen]
  refine bq_istore (i := 5) dX0_append_7 (by decide) ?_
  refine bq_newo (c := 2) (i := 4 * j + n) dX0_append_9 nw_X0_27 (by decide) hn2 (by show bt_us α + 15 ≤ bp_max; omega) (fun q0 => ?_)
  rw [bq_n_ad]
  refine bq_dup dX0_append_12 rfl ?_
  refine bq_aload_n (i := 0) dX0_append_13 rfl ?_
  refine bq_iload (i := 5) dX0_append_14 rfl ?_
  refine bq_aload_n (i := 1) dX0_append_16 rfl ?_
  refine bq_iload_n (i := 2) dX0_append_17 rfl ?_
  refine bq_iload_n (i := 3) dX0_append_18 rfl ?_
  refine bq_iload (i := 4) dX0_append_19 rfl ?_
  have i3 := i_op (G := G) (w := bq_n (bt α σ x) 2 (4 * j + n) q0 (bq_born tyX2) (0, 0) 15) (i := 4 * j + n) (a := bt_ad α 0 j) (b := bt_ad α 1 m) (n := nI n) (l := l) (f := f) (t := t) bq_nVr
  rw [bq_n_ad] at i3
  refine bq_callIr dX0_append_21 ml_X0_29 i3 (by decide) (by decide) (Nat.le_of_ble_eq_true rfl) rfl ?_
  have ej : bt_ad α 0 j = bt_ad α 0 ((4 * j + n) / 4) := by rw [hdiv]
  rw [show b_iO (bq_n (bt α σ x) 2 (4 * j + n) q0 (bq_born tyX2) (0, 0) 15) (4 * j + n) (bt_ad α 0 j) (bt_ad α 1 m) (nI n) l f t = b_iO (bq_n (bt α σ x) 2 (4 * j + n) q0 (bq_born tyX2) (0, 0) 15) (4 * j + n) (bt_ad α 0 ((4 * j + n) / 4)) (bt_ad α 1 m) (nI n) l f t by rw [ej]]
  refine x_op J hn2 ?_
  have J2 := x_oA_J (o := 4 * j + n) (m := m) (q0 := q0) (n := nI n) (l := l) (f := f) (t := t) J hn2 (by rw [hdiv]; exact hj) hm hf hF
  have e2 : bt_ad (x_oA α (4 * j + n) q0) 2 (4 * j + n) = q0 := x_A_ad
  have e0 : bt_ad (x_oA α (4 * j + n) q0) 0 j = bt_ad α 0 j := x_A_ado (by omega)
  have e1 : bt_ad (x_oA α (4 * j + n) q0) 1 m = bt_ad α 1 m := x_A_ado (by omega)
  have hV2 : bt_V (x_oA α (4 * j + n) q0) 2 (4 * j + n) := Or.inr ⟨rfl, rfl⟩
  have hV0 : bt_V (x_oA α (4 * j + n) q0) 0 j := Or.inl hj
  have hV1 : bt_V (x_oA α (4 * j + n) q0) 1 m := Or.inl hm
  refine bq_eqs (st2 := [.ref (bt_ad (x_oA α (4 * j + n) q0) 2 (4 * j + n))]) (by rw [e2]; rfl) ?_
  refine bq_lvs (lv' := [(0, .ref (bt_ad (x_oA α (4 * j + n) q0) 0 j)), (1, .ref (bt_ad (x_oA α (4 * j + n) q0) 1 m)), (4, .int t), (5, .int (nI n))]) ⟨by rw [e0]; rfl, by rw [e1]; rfl, rfl, rfl, trivial⟩ ?_
  have eS : (x_oS σ (4 * j + n) m (nI n) l f t).2.2 (8 + j) = σ.2.2 (8 + j) := rfl
  unfold b_apS
  generalize hs2 : x_oS σ (4 * j + n) m (nI n) l f t = σ2 at J2 eS ⊢
  generalize hα : x_oA α (4 * j + n) q0 = α2 at J2 hV2 hV0 hV1 ⊢
  clear e0 e1 e2 i3
  have hl2 : (σ2.2.2 (8 + j)).length = n := by rw [eS, hlen]
  by_cases h0 : n = 0
  · subst h0
    rw [show b_apL σ2 (4 * j + 0) = σ2 from if_pos (by omega)]
    refine bq_astore (i := 6) dX0_append_24 (by decide) ?_
    refine bq_iload (i := 5) dX0_append_26 rfl ?_
    refine bq_if_le (tgt := 61) dX0_append_28 (by decide) (fun c_28 => ?_) (fun z9_ => absurd (show nI 0 ≤ 0 by decide) z9_)
    refine bq_aload_n (i := 0) dX0_append_61 rfl ?_
    refine bt_get3 (c' := 7) (n := (8 + j)) dX0_append_62 fl_X0_19 (by exact hV0) ⟨rfl, rfl, rfl⟩ (by decide) ?_
    refine bq_aload (i := 6) dX0_append_65 rfl ?_
    refine bt_adds (c := 2) dX0_append_67 ml_X0_43 (by exact J2.ops hV0) bt_sl_ops (by first | rfl | exact bt_lc_ops.symm) (by exact hV2) (by rw [hl2]; omega) (by decide) (Nat.le_of_ble_eq_true rfl) ?_
    refine bq_pop dX0_append_70 rfl ?_
    refine bq_aload_n (i := 1) dX0_append_71 rfl ?_
    refine bq_aload_n (i := 1) dX0_append_72 rfl ?_
    refine bt_get4 dX0_append_73 fl_X0_47 (by exact hV1) rfl (by decide) ?_
    refine bq_iload (i := 4) dX0_append_76 rfl ?_
    refine bq_callSr dX0_append_78 ml_X0_52 (c_bc) (by decide) (by decide) (Nat.le_of_ble_eq_true rfl) rfl ?_
    refine bq_mmax dX0_append_81 ⟨ml_X0_58, mw_max⟩ (by decide) (Nat.le_of_ble_eq_true rfl) ?_
    refine bt_put4 dX0_append_84 fl_X0_47 (by exact hV1) rfl (by decide) (by first | rfl | decide) (by first | rfl | decide) ?_
    refine bq_iload (i := 5) dX0_append_87 rfl ?_
    exact bq_iret dX0_append_89 rfl (by first | rfl | decide) ⟨q0, rfl, by subst hα; rfl⟩
  · have hg : (σ2.2.2 (8 + j))[n - 1]? = some (4 * j + n - 1) := by
      rw [eS, hr, List.getElem?_range' (by omega)]
      exact congrArg some (by omega)
    rw [show b_apL σ2 (4 * j + n) = bt_rs (bt_rs σ2 2 (4 * j + n) 6 (some (4 * j + n - 1))) 2 (4 * j + n - 1) 7 (some (4 * j + n)) from if_neg (by omega)]
    refine bq_astore (i := 6) dX0_append_24 (by decide) ?_
    refine bq_iload (i := 5) dX0_append_26 rfl ?_
    refine bq_if_le (tgt := 61) dX0_append_28 (by decide) (fun z9_ => absurd z9_ (show ¬ nI n ≤ 0 from nI_nle (by omega) (by omega))) (fun c_28 => ?_)
    refine bq_aload_n (i := 0) dX0_append_31 rfl ?_
    refine bt_get3 (c' := 7) (n := (8 + j)) dX0_append_32 fl_X0_19 (by exact hV0) ⟨rfl, rfl, rfl⟩ (by decide) ?_
    refine bq_iload (i := 5) dX0_append_35 rfl ?_
    refine bq_iconst (v := (nI 1)) dX0_append_37 (by decide) ?_
    refine bq_isub dX0_append_38 ?_
    rw [pk_sub (by omega)]
    refine bt_geti (j := n - 1) (y := (4 * j + n - 1)) (c' := 2) dX0_append_39 ml_X0_32 (by exact J2.ops hV0) (bt_ls bt_sl_ops) rfl hg bt_lc_ops (by decide) (Nat.le_of_ble_eq_true rfl) (fun v_39 => ?_)
    refine bt_cast (c := 2) dX0_append_42 rfl cl_X0_27 (by exact v_39) (by decide) ?_
    refine bq_astore (i := 7) dX0_append_45 (by decide) ?_
    refine bq_aload (i := 6) dX0_append_47 rfl ?_
    refine bq_aload (i := 7) dX0_append_49 rfl ?_
    refine bt_put5 (c' := 2) dX0_append_51 fl_X0_36 (by exact hV2) ⟨rfl, rfl⟩ (by decide) rfl rfl ?_
    refine bq_aload (i := 7) dX0_append_54 rfl ?_
    refine bq_aload (i := 6) dX0_append_56 rfl ?_
    refine bt_put5 (c' := 2) dX0_append_58 fl_X0_40 (by exact v_39) ⟨rfl, rfl⟩ (by decide) rfl rfl ?_
    refine bq_aload_n (i := 0) dX0_append_61 rfl ?_
    refine bt_get3 (c' := 7) (n := (8 + j)) dX0_append_62 fl_X0_19 (by exact hV0) ⟨rfl, rfl, rfl⟩ (by decide) ?_
    refine bq_aload (i := 6) dX0_append_65 rfl ?_
    refine bt_adds (c := 2) dX0_append_67 ml_X0_43 (by exact J2.ops hV0) bt_sl_ops (by first | rfl | exact bt_lc_ops.symm) (by exact hV2) (by show (σ2.2.2 (8 + j)).length < 33; omega) (by decide) (Nat.le_of_ble_eq_true rfl) ?_
    refine bq_pop dX0_append_70 rfl ?_
    refine bq_aload_n (i := 1) dX0_append_71 rfl ?_
    refine bq_aload_n (i := 1) dX0_append_72 rfl ?_
    refine bt_get4 dX0_append_73 fl_X0_47 (by exact hV1) rfl (by decide) ?_
    refine bq_iload (i := 4) dX0_append_76 rfl ?_
    refine bq_callSr dX0_append_78 ml_X0_52 (c_bc) (by decide) (by decide) (Nat.le_of_ble_eq_true rfl) rfl ?_
    refine bq_mmax dX0_append_81 ⟨ml_X0_58, mw_max⟩ (by decide) (Nat.le_of_ble_eq_true rfl) ?_
    refine bt_put4 dX0_append_84 fl_X0_47 (by exact hV1) rfl (by decide) (by first | rfl | decide) (by first | rfl | decide) ?_
    refine bq_iload (i := 5) dX0_append_87 rfl ?_
    exact bq_iret dX0_append_89 rfl (by first | rfl | decide) ⟨q0, rfl, by subst hα; rfl⟩
/-- what is thrown, if anything -/
def b_addE (σ : bt_X) (a b l f t : Int32) : Option String := match b_ix (b_nj σ) a with
  | none => some b_IO
  | some j => match b_ix (b_nm σ) b with
    | none => some b_IO
    | some m => if l < nI 1 then some b_IA else if l ≤ nI 200 then (if f < 0 then some b_IA else if f < nI 4 then (if t < 0 then some b_IA else if t ≤ nI 255 then
        (if nI (b_np σ j) < nI 4 then (if σ.1 0 j 3 = 0 then (if b_bc t ≤ σ.1 1 m 1 then none else some b_IS) else some b_IS) else some b_IS) else some b_IA) else some b_IA) else some b_IA
set_option maxRecDepth 100000 in
set_option maxHeartbeats 1000000 in
theorem k_addOE {G : bp_X} {α : bt_A} {σ x : bt_X} {a b l f t : Int32} {E : String} (h : b_Ok α σ x) (hroom : bt_us α + 110 ≤ bp_max) (hF : b_addE σ a b l f t = some E) : bq_S G mX5_addOperation 10 [.ref (bt_ad α 5 0), .int a, .int b, .int l, .int f, .int t] (bt α σ x) (bq_end (.inr E) (bt (bt_rm α) σ x)) := by
  have J := h.J
  have hS := h.S
  have hroom7 : bt_us α + 7 ≤ bp_max := by omega
  refine bq_ofW (by decide +kernel) rfl (Nat.le_of_ble_eq_true rfl) ?_
  unfold b_addE at hF
  cases e1 : b_ix (b_nj σ) a with
  | none =>
    rw [e1] at hF
    cases hF
    refine bq_aload_n (i := 0) dX5_addOperation_0 rfl ?_
    refine bq_iload_n (i := 1) dX5_addOperation_1 rfl ?_
    exact bt_callVe (c := 5) (i := 0) dX5_addOperation_2 rfl ml_X5_91 J.v5 (by decide) (c_kjN J e1 hroom7) (by decide) (by decide) (Nat.le_of_ble_eq_true rfl) rfl rfl ⟨rfl, rfl⟩
  | some j =>
    rw [e1] at hF
    simp only [] at hF
    have hj := (b_ix_s (by have := hS.2.2.2.1; omega) e1).2.1
    have hVj := h.V0 hj
    have hp4 := (hS.2.2.2.2 j hj).2
    cases e2 : b_ix (b_nm σ) b with
    | none =>
      rw [e2] at hF
      cases hF
      refine bq_aload_n (i := 0) dX5_addOperation_0 rfl ?_
      refine bq_iload_n (i := 1) dX5_addOperation_1 rfl ?_
      refine bt_callVr (c := 5) (i := 0) dX5_addOperation_2 rfl ml_X5_91 (by first | assumption | exact J.v3 | exact J.v4 | exact J.v5 | exact J.v6 | exact J.l0 | exact J.l1 | exact J.l2 | exact J.l3 | exact J.row (by assumption) | exact J.ops (by assumption) | exact J.job (by assumption)) (by decide) (c_kjS J hS e1) (by decide) (by decide) (Nat.le_of_ble_eq_true rfl) rfl ?_
      refine bq_astore (i := 6) dX5_addOperation_5 (by decide) ?_
      refine bq_aload_n (i := 0) dX5_addOperation_7 rfl ?_
      refine bq_iload_n (i := 2) dX5_addOperation_8 rfl ?_
      exact bt_callVe (c := 5) (i := 0) dX5_addOperation_9 rfl ml_X5_40 J.v5 (by decide) (c_kmN J e2 hroom7) (by decide) (by decide) (Nat.le_of_ble_eq_true rfl) rfl rfl ⟨rfl, rfl⟩
    | some m =>
      rw [e2] at hF
      simp only [] at hF
      have hmn := (b_ix_s (by have := hS.2.1; omega) e2).2.1
      have hVm := h.V1 hmn
      have hm := J.m4 hVm
      refine bq_aload_n (i := 0) dX5_addOperation_0 rfl ?_
      refine bq_iload_n (i := 1) dX5_addOperation_1 rfl ?_
      refine bt_callVr (c := 5) (i := 0) dX5_addOperation_2 rfl ml_X5_91 (by first | assumption | exact J.v3 | exact J.v4 | exact J.v5 | exact J.v6 | exact J.l0 | exact J.l1 | exact J.l2 | exact J.l3 | exact J.row (by assumption) | exact J.ops (by assumption) | exact J.job (by assumption)) (by decide) (c_kjS J hS e1) (by decide) (by decide) (Nat.le_of_ble_eq_true rfl) rfl ?_
      refine bq_astore (i := 6) dX5_addOperation_5 (by decide) ?_
      refine bq_aload_n (i := 0) dX5_addOperation_7 rfl ?_
      refine bq_iload_n (i := 2) dX5_addOperation_8 rfl ?_
      refine bt_callVr (c := 5) (i := 0) dX5_addOperation_9 rfl ml_X5_40 (by first | assumption | exact J.v3 | exact J.v4 | exact J.v5 | exact J.v6 | exact J.l0 | exact J.l1 | exact J.l2 | exact J.l3 | exact J.row (by assumption) | exact J.ops (by assumption) | exact J.job (by assumption)) (by decide) (c_kmS J hS e2) (by decide) (by decide) (Nat.le_of_ble_eq_true rfl) rfl ?_
      refine bq_astore (i := 7) dX5_addOperation_12 (by decide) ?_
      refine bq_iload_n (i := 3) dX5_addOperation_14 rfl ?_
      refine bq_iconst (v := (nI 1)) dX5_addOperation_15 (by decide) ?_
      refine bq_icmp_lt (tgt := 26) dX5_addOperation_16 (by decide) (fun c_16 => ?_) (fun c_16 => ?_)
      · rw [if_pos c_16] at hF
        exact bq_throw dX5_addOperation_26 dX5_addOperation_29 dX5_addOperation_30 dX5_addOperation_32 dX5_addOperation_35 tw_44_95_48 rfl (by decide) (Nat.le_of_ble_eq_true rfl) hroom7 (by cases hF; exact ⟨rfl, rfl⟩)
      · rw [if_neg c_16] at hF
        refine bq_iload_n (i := 3) dX5_addOperation_19 rfl ?_
        refine bq_sipush (v := (nI 200)) dX5_addOperation_20 (by decide) ?_
        refine bq_icmp_le (tgt := 36) dX5_addOperation_23 (by decide) (fun c_23 => ?_) (fun c_23 => ?_)
        · rw [if_pos c_23] at hF
          refine bq_iload (i := 4) dX5_addOperation_36 rfl ?_
          refine bq_if_lt (tgt := 47) dX5_addOperation_38 (by decide) (fun c_38 => ?_) (fun c_38 => ?_)
          · rw [if_pos c_38] at hF
            exact bq_throw dX5_addOperation_47 dX5_addOperation_50 dX5_addOperation_51 dX5_addOperation_53 dX5_addOperation_56 tw_44_97_48 rfl (by decide) (Nat.le_of_ble_eq_true rfl) hroom7 (by cases hF; exact ⟨rfl, rfl⟩)
          · rw [if_neg c_38] at hF
            refine bq_iload (i := 4) dX5_addOperation_41 rfl ?_
            refine bq_iconst (v := (nI 4)) dX5_addOperation_43 (by decide) ?_
            refine bq_icmp_lt (tgt := 57) dX5_addOperation_44 (by decide) (fun c_44 => ?_) (fun c_44 => ?_)
            · rw [if_pos c_44] at hF
              refine bq_iload (i := 5) dX5_addOperation_57 rfl ?_
              refine bq_if_lt (tgt := 70) dX5_addOperation_59 (by decide) (fun c_59 => ?_) (fun c_59 => ?_)
              · rw [if_pos c_59] at hF
                exact bq_throw dX5_addOperation_70 dX5_addOperation_73 dX5_addOperation_74 dX5_addOperation_76 dX5_addOperation_79 tw_44_99_48 rfl (by decide) (Nat.le_of_ble_eq_true rfl) hroom7 (by cases hF; exact ⟨rfl, rfl⟩)
              · rw [if_neg c_59] at hF
                refine bq_iload (i := 5) dX5_addOperation_62 rfl ?_
                refine bq_sipush (v := (nI 255)) dX5_addOperation_64 (by decide) ?_
                refine bq_icmp_le (tgt := 80) dX5_addOperation_67 (by decide) (fun c_67 => ?_) (fun c_67 => ?_)
                · rw [if_pos c_67] at hF
                  refine bq_aload (i := 6) dX5_addOperation_80 rfl ?_
                  refine bt_get3 (c' := 7) (n := (8 + j)) dX5_addOperation_82 fl_X5_101 (by first | assumption | exact J.v3 | exact J.v4 | exact J.v5 | exact J.v6 | exact J.l0 | exact J.l1 | exact J.l2 | exact J.l3 | exact J.row (by assumption) | exact J.ops (by assumption) | exact J.job (by assumption)) ⟨rfl, rfl, rfl⟩ (by decide) ?_
                  refine bt_size dX5_addOperation_85 ml_X5_20 (by first | assumption | exact J.v3 | exact J.v4 | exact J.v5 | exact J.v6 | exact J.l0 | exact J.l1 | exact J.l2 | exact J.l3 | exact J.row (by assumption) | exact J.ops (by assumption) | exact J.job (by assumption)) (bt_ls bt_sl_ops) (by decide) (Nat.le_of_ble_eq_true rfl) ?_
                  refine bq_iconst (v := (nI 4)) dX5_addOperation_88 (by decide) ?_
                  refine bq_icmp_lt (tgt := 102) dX5_addOperation_89 (by decide) (fun c_89 => ?_) (fun c_89 => ?_)
                  · rw [if_pos (show nI (b_np σ j) < nI 4 from c_89)] at hF
                    refine bq_aload (i := 6) dX5_addOperation_102 rfl ?_
                    refine bt_get4 dX5_addOperation_104 fl_X5_106 (by first | assumption | exact J.v3 | exact J.v4 | exact J.v5 | exact J.v6 | exact J.l0 | exact J.l1 | exact J.l2 | exact J.l3 | exact J.row (by assumption) | exact J.ops (by assumption) | exact J.job (by assumption)) rfl (by decide) ?_
                    refine bq_if_eq (tgt := 120) dX5_addOperation_107 (by decide) (fun c_107 => ?_) (fun c_107 => ?_)
                    · rw [if_pos c_107] at hF
                      refine bq_iload (i := 5) dX5_addOperation_120 rfl ?_
                      refine bq_callSr dX5_addOperation_122 ml_X5_111 (c_bc) (by decide) (by decide) (Nat.le_of_ble_eq_true rfl) rfl ?_
                      refine bq_aload (i := 7) dX5_addOperation_125 rfl ?_
                      refine bt_get4 dX5_addOperation_127 fl_X5_55 (by first | assumption | exact J.v3 | exact J.v4 | exact J.v5 | exact J.v6 | exact J.l0 | exact J.l1 | exact J.l2 | exact J.l3 | exact J.row (by assumption) | exact J.ops (by assumption) | exact J.job (by assumption)) rfl (by decide) ?_
                      refine bq_icmp_le (tgt := 143) dX5_addOperation_130 (by decide) (fun c_130 => ?_) (fun c_130 => ?_)
                      · rw [if_pos c_130] at hF
                        cases hF
                      · rw [if_neg c_130] at hF
                        exact bq_throw dX5_addOperation_133 dX5_addOperation_136 dX5_addOperation_137 dX5_addOperation_139 dX5_addOperation_142 tw_26_117_30 rfl (by decide) (Nat.le_of_ble_eq_true rfl) hroom7 (by cases hF; exact ⟨rfl, rfl⟩)
                    · rw [if_neg c_107] at hF
                      exact bq_throw dX5_addOperation_110 dX5_addOperation_113 dX5_addOperation_114 dX5_addOperation_116 dX5_addOperation_119 tw_26_109_30 rfl (by decide) (Nat.le_of_ble_eq_true rfl) hroom7 (by cases hF; exact ⟨rfl, rfl⟩)
                  · rw [if_neg (show ¬ nI (b_np σ j) < nI 4 from c_89)] at hF
                    exact bq_throw dX5_addOperation_92 dX5_addOperation_95 dX5_addOperation_96 dX5_addOperation_98 dX5_addOperation_101 tw_26_104_30 rfl (by decide) (Nat.le_of_ble_eq_true rfl) hroom7 (by cases hF; exact ⟨rfl, rfl⟩)
                · rw [if_neg c_67] at hF
                  exact bq_throw dX5_addOperation_70 dX5_addOperation_73 dX5_addOperation_74 dX5_addOperation_76 dX5_addOperation_79 tw_44_99_48 rfl (by decide) (Nat.le_of_ble_eq_true rfl) hroom7 (by cases hF; exact ⟨rfl, rfl⟩)
            · rw [if_neg c_44] at hF
              exact bq_throw dX5_addOperation_47 dX5_addOperation_50 dX5_addOperation_51 dX5_addOperation_53 dX5_addOperation_56 tw_44_97_48 rfl (by decide) (Nat.le_of_ble_eq_true rfl) hroom7 (by cases hF; exact ⟨rfl, rfl⟩)
        · rw [if_neg c_23] at hF
          exact bq_throw dX5_addOperation_26 dX5_addOperation_29 dX5_addOperation_30 dX5_addOperation_32 dX5_addOperation_35 tw_44_95_48 rfl (by decide) (Nat.le_of_ble_eq_true rfl) hroom7 (by cases hF; exact ⟨rfl, rfl⟩)
set_option maxRecDepth 100000 in
set_option maxHeartbeats 1000000 in
theorem k_addO {G : bp_X} {α : bt_A} {σ x : bt_X} {a b l f t : Int32} {j m : Nat} (h : b_Ok α σ x) (h7 : m_V7 α σ) (hroom : bt_us α + 110 ≤ bp_max) (hF : b_addE σ a b l f t = none) (e1 : b_ix (b_nj σ) a = some j) (e2 : b_ix (b_nm σ) b = some m) : bq_S G mX5_addOperation 10 [.ref (bt_ad α 5 0), .int a, .int b, .int l, .int f, .int t] (bt α σ x)
    (fun o w' => ∃ q0, o = .inl (some (.int (nI (b_np σ j)))) ∧ w' = bt (x_oA α (4 * j + b_np σ j) q0) (b_apS σ j (b_np σ j) m l f t) (x_oX x (4 * j + b_np σ j))) := by
  have J := h.J
  have hS := h.S
  have hj := (b_ix_s (by have := hS.2.2.2.1; omega) e1).2.1
  have hVj := h.V0 hj
  have hr := (hS.2.2.2.2 j hj).1
  have hp4 := (hS.2.2.2.2 j hj).2
  have hmn := (b_ix_s (by have := hS.2.1; omega) e2).2.1
  have hVm := h.V1 hmn
  have hm := J.m4 hVm
  refine bq_ofW (by decide +kernel) rfl (Nat.le_of_ble_eq_true rfl) ?_
  unfold b_addE at hF
  rw [e1] at hF
  simp only [] at hF
  rw [e2] at hF
  simp only [] at hF
  refine bq_aload_n (i := 0) dX5_addOperation_0 rfl ?_
  refine bq_iload_n (i := 1) dX5_addOperation_1 rfl ?_
  refine bt_callVr (c := 5) (i := 0) dX5_addOperation_2 rfl ml_X5_91 (by first | assumption | exact J.v3 | exact J.v4 | exact J.v5 | exact J.v6 | exact J.l0 | exact J.l1 | exact J.l2 | exact J.l3 | exact J.row (by assumption) | exact J.ops (by assumption) | exact J.job (by assumption)) (by decide) (c_kjS J hS e1) (by decide) (by decide) (Nat.le_of_ble_eq_true rfl) rfl ?_
  refine bq_astore (i := 6) dX5_addOperation_5 (by decide) ?_
  refine bq_aload_n (i := 0) dX5_addOperation_7 rfl ?_
  refine bq_iload_n (i := 2) dX5_addOperation_8 rfl ?_
  refine bt_callVr (c := 5) (i := 0) dX5_addOperation_9 rfl ml_X5_40 (by first | assumption | exact J.v3 | exact J.v4 | exact J.v5 | exact J.v6 | exact J.l0 | exact J.l1 | exact J.l2 | exact J.l3 | exact J.row (by assumption) | exact J.ops (by assumption) | exact J.job (by assumption)) (by decide) (c_kmS J hS e2) (by decide) (by decide) (Nat.le_of_ble_eq_true rfl) rfl ?_
  refine bq_astore (i := 7) dX5_addOperation_12 (by decide) ?_
  refine bq_iload_n (i := 3) dX5_addOperation_14 rfl ?_
  refine bq_iconst (v := (nI 1)) dX5_addOperation_15 (by decide) ?_
  refine bq_icmp_lt (tgt := 26) dX5_addOperation_16 (by decide) (fun c_16 => ?_) (fun c_16 => ?_)
  · rw [if_pos c_16] at hF
    cases hF
  · rw [if_neg c_16] at hF
    refine bq_iload_n (i := 3) dX5_addOperation_19 rfl ?_
    refine bq_sipush (v := (nI 200)) dX5_addOperation_20 (by decide) ?_
    refine bq_icmp_le (tgt := 36) dX5_addOperation_23 (by decide) (fun c_23 => ?_) (fun c_23 => ?_)
    · rw [if_pos c_23] at hF
      refine bq_iload (i := 4) dX5_addOperation_36 rfl ?_
      refine bq_if_lt (tgt := 47) dX5_addOperation_38 (by decide) (fun c_38 => ?_) (fun c_38 => ?_)
      · rw [if_pos c_38] at hF
        cases hF
      · rw [if_neg c_38] at hF
        refine bq_iload (i := 4) dX5_addOperation_41 rfl ?_
        refine bq_iconst (v := (nI 4)) dX5_addOperation_43 (by decide) ?_
        refine bq_icmp_lt (tgt := 57) dX5_addOperation_44 (by decide) (fun c_44 => ?_) (fun c_44 => ?_)
        · rw [if_pos c_44] at hF
          refine bq_iload (i := 5) dX5_addOperation_57 rfl ?_
          refine bq_if_lt (tgt := 70) dX5_addOperation_59 (by decide) (fun c_59 => ?_) (fun c_59 => ?_)
          · rw [if_pos c_59] at hF
            cases hF
          · rw [if_neg c_59] at hF
            refine bq_iload (i := 5) dX5_addOperation_62 rfl ?_
            refine bq_sipush (v := (nI 255)) dX5_addOperation_64 (by decide) ?_
            refine bq_icmp_le (tgt := 80) dX5_addOperation_67 (by decide) (fun c_67 => ?_) (fun c_67 => ?_)
            · rw [if_pos c_67] at hF
              refine bq_aload (i := 6) dX5_addOperation_80 rfl ?_
              refine bt_get3 (c' := 7) (n := (8 + j)) dX5_addOperation_82 fl_X5_101 (by first | assumption | exact J.v3 | exact J.v4 | exact J.v5 | exact J.v6 | exact J.l0 | exact J.l1 | exact J.l2 | exact J.l3 | exact J.row (by assumption) | exact J.ops (by assumption) | exact J.job (by assumption)) ⟨rfl, rfl, rfl⟩ (by decide) ?_
              refine bt_size dX5_addOperation_85 ml_X5_20 (by first | assumption | exact J.v3 | exact J.v4 | exact J.v5 | exact J.v6 | exact J.l0 | exact J.l1 | exact J.l2 | exact J.l3 | exact J.row (by assumption) | exact J.ops (by assumption) | exact J.job (by assumption)) (bt_ls bt_sl_ops) (by decide) (Nat.le_of_ble_eq_true rfl) ?_
              refine bq_iconst (v := (nI 4)) dX5_addOperation_88 (by decide) ?_
              refine bq_icmp_lt (tgt := 102) dX5_addOperation_89 (by decide) (fun c_89 => ?_) (fun c_89 => ?_)
              · rw [if_pos (show nI (b_np σ j) < nI 4 from c_89)] at hF
                refine bq_aload (i := 6) dX5_addOperation_102 rfl ?_
                refine bt_get4 dX5_addOperation_104 fl_X5_106 (by first | assumption | exact J.v3 | exact J.v4 | exact J.v5 | exact J.v6 | exact J.l0 | exact J.l1 | exact J.l2 | exact J.l3 | exact J.row (by assumption) | exact J.ops (by assumption) | exact J.job (by assumption)) rfl (by decide) ?_
                refine bq_if_eq (tgt := 120) dX5_addOperation_107 (by decide) (fun c_107 => ?_) (fun c_107 => ?_)
                · rw [if_pos c_107] at hF
                  refine bq_iload (i := 5) dX5_addOperation_120 rfl ?_
                  refine bq_callSr dX5_addOperation_122 ml_X5_111 (c_bc) (by decide) (by decide) (Nat.le_of_ble_eq_true rfl) rfl ?_
                  refine bq_aload (i := 7) dX5_addOperation_125 rfl ?_
                  refine bt_get4 dX5_addOperation_127 fl_X5_55 (by first | assumption | exact J.v3 | exact J.v4 | exact J.v5 | exact J.v6 | exact J.l0 | exact J.l1 | exact J.l2 | exact J.l3 | exact J.row (by assumption) | exact J.ops (by assumption) | exact J.job (by assumption)) rfl (by decide) ?_
                  refine bq_icmp_le (tgt := 143) dX5_addOperation_130 (by decide) (fun c_130 => ?_) (fun c_130 => ?_)
                  · rw [if_pos c_130] at hF
                    refine bq_aload (i := 6) dX5_addOperation_143 rfl ?_
                    refine bq_aload (i := 7) dX5_addOperation_145 rfl ?_
                    refine bq_iload_n (i := 3) dX5_addOperation_147 rfl ?_
                    refine bq_iload (i := 4) dX5_addOperation_148 rfl ?_
                    refine bq_iload (i := 5) dX5_addOperation_150 rfl ?_
                    have hn4 : b_np σ j < 4 := (nI_ltI (by omega) (by decide)).mp c_89
                    obtain ⟨f1, f2⟩ := b_nn c_38 c_44 (by decide)
                    have hn2 : ¬ bt_V α 2 (4 * j + b_np σ j) := fun z => by
                      obtain ⟨j', k', q1, q2, q3⟩ := h7.2 _ z
                      have := (hS.2.2.2.2 j' q1).2
                      have ej : j' = j := by omega
                      subst ej
                      omega
                    refine bt_callV (c := 0) (i := j) dX5_addOperation_152 rfl ml_X5_119 hVj (by decide) (k_append J hVj hVm hr hn4 hn2 hroom f1 f2) (by decide) (by decide) (Nat.le_of_ble_eq_true rfl) rfl (fun v w' hp => ?_) (fun E w' hp => by obtain ⟨q0, z, -⟩ := hp; cases z)
                    obtain ⟨q0, z, rfl⟩ := hp
                    cases z
                    exact bq_iret dX5_addOperation_155 rfl (by first | rfl | decide) ⟨q0, rfl, rfl⟩
                  · rw [if_neg c_130] at hF
                    cases hF
                · rw [if_neg c_107] at hF
                  cases hF
              · rw [if_neg (show ¬ nI (b_np σ j) < nI 4 from c_89)] at hF
                cases hF
            · rw [if_neg c_67] at hF
              cases hF
        · rw [if_neg c_44] at hF
          cases hF
    · rw [if_neg c_23] at hF
      cases hF

