/-! ===== machines ===== -/
def b_isB (σ : bt_X) (m : Nat) (s l : Int32) : Int32 := if σ.1 1 m 3 = 0 then nI 0 else if σ.1 1 m 5 ≤ s then nI 0 else if s + l ≤ σ.1 1 m 4 then nI 0 else nI 1
def b_ls (σ : bt_X) (m : Nat) (r l : Int32) : Int32 := if b_isB σ m r l = 0 then r else σ.1 1 m 5
def b_gs (σ : bt_X) (m : Nat) (t l : Int32) : Int32 := if b_isB σ m t l = 0 then t else σ.1 1 m 4 - l
set_option maxRecDepth 100000 in
set_option maxHeartbeats 400000 in
theorem c_isB {G : bp_X} {α : bt_A} {σ x : bt_X} {m : Nat} {s l : Int32} (hV : bt_V α 1 m) : bq_S G mX1_isBrokenDuring 0 [.ref (bt_ad α 1 m), .int s, .int l] (bt α σ x) (bq_ret (some (.int (b_isB σ m s l))) (bt α σ x)) := by
  refine bq_ofW (by decide +kernel) rfl (Nat.le_of_ble_eq_true rfl) ?_
  unfold b_isB
  refine bq_aload_n (i := 0) dX1_isBrokenDuring_0 rfl ?_
  refine bt_get4 dX1_isBrokenDuring_1 fl_X1_57 (by first | assumption | exact J.v3 | exact J.v4 | exact J.v5 | exact J.v6 | exact J.l0 | exact J.l1 | exact J.l2 | exact J.l3 | exact J.row (by assumption) | exact J.ops (by assumption) | exact J.job (by assumption)) rfl (by decide) ?_
  refine bq_if_eq (tgt := 29) dX1_isBrokenDuring_4 (by decide) (fun c_4 => ?_) (fun c_4 => ?_)
  · rw [if_pos c_4]
    refine bq_iconst (v := (nI 0)) dX1_isBrokenDuring_29 (by decide) ?_
    exact bq_iret dX1_isBrokenDuring_30 rfl (by first | rfl | decide) bq_ret_i
  · rw [if_neg c_4]
    refine bq_iload_n (i := 1) dX1_isBrokenDuring_7 rfl ?_
    refine bq_aload_n (i := 0) dX1_isBrokenDuring_8 rfl ?_
    refine bt_get4 dX1_isBrokenDuring_9 fl_X1_61 (by first | assumption | exact J.v3 | exact J.v4 | exact J.v5 | exact J.v6 | exact J.l0 | exact J.l1 | exact J.l2 | exact J.l3 | exact J.row (by assumption) | exact J.ops (by assumption) | exact J.job (by assumption)) rfl (by decide) ?_
    refine bq_icmp_ge (tgt := 29) dX1_isBrokenDuring_12 (by decide) (fun c_12 => ?_) (fun c_12 => ?_)
    · rw [if_pos c_12]
      refine bq_iconst (v := (nI 0)) dX1_isBrokenDuring_29 (by decide) ?_
      exact bq_iret dX1_isBrokenDuring_30 rfl (by first | rfl | decide) bq_ret_i
    · rw [if_neg c_12]
      refine bq_iload_n (i := 1) dX1_isBrokenDuring_15 rfl ?_
      refine bq_iload_n (i := 2) dX1_isBrokenDuring_16 rfl ?_
      refine bq_iadd dX1_isBrokenDuring_17 ?_
      refine bq_aload_n (i := 0) dX1_isBrokenDuring_18 rfl ?_
      refine bt_get4 dX1_isBrokenDuring_19 fl_X1_64 (by first | assumption | exact J.v3 | exact J.v4 | exact J.v5 | exact J.v6 | exact J.l0 | exact J.l1 | exact J.l2 | exact J.l3 | exact J.row (by assumption) | exact J.ops (by assumption) | exact J.job (by assumption)) rfl (by decide) ?_
      refine bq_icmp_le (tgt := 29) dX1_isBrokenDuring_22 (by decide) (fun c_22 => ?_) (fun c_22 => ?_)
      · rw [if_pos c_22]
        refine bq_iconst (v := (nI 0)) dX1_isBrokenDuring_29 (by decide) ?_
        exact bq_iret dX1_isBrokenDuring_30 rfl (by first | rfl | decide) bq_ret_i
      · rw [if_neg c_22]
        refine bq_iconst (v := (nI 1)) dX1_isBrokenDuring_25 (by decide) ?_
        refine bq_goto (tgt := 30) dX1_isBrokenDuring_26 (by decide) ?_
        exact bq_iret dX1_isBrokenDuring_30 rfl (by first | rfl | decide) bq_ret_i
set_option maxRecDepth 100000 in
set_option maxHeartbeats 400000 in
theorem c_ls {G : bp_X} {α : bt_A} {σ x : bt_X} {m : Nat} {r l : Int32} (hV : bt_V α 1 m) : bq_S G mX1_leastStart 1 [.ref (bt_ad α 1 m), .int r, .int l] (bt α σ x) (bq_ret (some (.int (b_ls σ m r l))) (bt α σ x)) := by
  refine bq_ofW (by decide +kernel) rfl (Nat.le_of_ble_eq_true rfl) ?_
  unfold b_ls
  refine bq_aload_n (i := 0) dX1_leastStart_0 rfl ?_
  refine bq_iload_n (i := 1) dX1_leastStart_1 rfl ?_
  refine bq_iload_n (i := 2) dX1_leastStart_2 rfl ?_
  refine bt_callVr (c := 1) (i := m) dX1_leastStart_3 rfl ml_X1_67 (by first | assumption | exact J.v3 | exact J.v4 | exact J.v5 | exact J.v6 | exact J.l0 | exact J.l1 | exact J.l2 | exact J.l3 | exact J.row (by assumption) | exact J.ops (by assumption) | exact J.job (by assumption)) (by decide) (c_isB hV) (by decide) (by decide) (Nat.le_of_ble_eq_true rfl) rfl ?_
  refine bq_if_eq (tgt := 16) dX1_leastStart_6 (by decide) (fun c_6 => ?_) (fun c_6 => ?_)
  · rw [if_pos c_6]
    refine bq_iload_n (i := 1) dX1_leastStart_16 rfl ?_
    exact bq_iret dX1_leastStart_17 rfl (by first | rfl | decide) bq_ret_i
  · rw [if_neg c_6]
    refine bq_aload_n (i := 0) dX1_leastStart_9 rfl ?_
    refine bt_get4 dX1_leastStart_10 fl_X1_61 (by first | assumption | exact J.v3 | exact J.v4 | exact J.v5 | exact J.v6 | exact J.l0 | exact J.l1 | exact J.l2 | exact J.l3 | exact J.row (by assumption) | exact J.ops (by assumption) | exact J.job (by assumption)) rfl (by decide) ?_
    refine bq_goto (tgt := 17) dX1_leastStart_13 (by decide) ?_
    exact bq_iret dX1_leastStart_17 rfl (by first | rfl | decide) bq_ret_i
set_option maxRecDepth 100000 in
set_option maxHeartbeats 400000 in
theorem c_gs {G : bp_X} {α : bt_A} {σ x : bt_X} {m : Nat} {t l : Int32} (hV : bt_V α 1 m) : bq_S G mX1_greatestStart 1 [.ref (bt_ad α 1 m), .int t, .int l] (bt α σ x) (bq_ret (some (.int (b_gs σ m t l))) (bt α σ x)) := by
  refine bq_ofW (by decide +kernel) rfl (Nat.le_of_ble_eq_true rfl) ?_
  unfold b_gs
  refine bq_aload_n (i := 0) dX1_greatestStart_0 rfl ?_
  refine bq_iload_n (i := 1) dX1_greatestStart_1 rfl ?_
  refine bq_iload_n (i := 2) dX1_greatestStart_2 rfl ?_
  refine bt_callVr (c := 1) (i := m) dX1_greatestStart_3 rfl ml_X1_67 (by first | assumption | exact J.v3 | exact J.v4 | exact J.v5 | exact J.v6 | exact J.l0 | exact J.l1 | exact J.l2 | exact J.l3 | exact J.row (by assumption) | exact J.ops (by assumption) | exact J.job (by assumption)) (by decide) (c_isB hV) (by decide) (by decide) (Nat.le_of_ble_eq_true rfl) rfl ?_
  refine bq_if_eq (tgt := 18) dX1_greatestStart_6 (by decide) (fun c_6 => ?_) (fun c_6 => ?_)
  · rw [if_pos c_6]
    refine bq_iload_n (i := 1) dX1_greatestStart_18 rfl ?_
    exact bq_iret dX1_greatestStart_19 rfl (by first | rfl | decide) bq_ret_i
  · rw [if_neg c_6]
    refine bq_aload_n (i := 0) dX1_greatestStart_9 rfl ?_
    refine bt_get4 dX1_greatestStart_10 fl_X1_64 (by first | assumption | exact J.v3 | exact J.v4 | exact J.v5 | exact J.v6 | exact J.l0 | exact J.l1 | exact J.l2 | exact J.l3 | exact J.row (by assumption) | exact J.ops (by assumption) | exact J.job (by assumption)) rfl (by decide) ?_
    refine bq_iload_n (i := 2) dX1_greatestStart_13 rfl ?_
    refine bq_isub dX1_greatestStart_14 ?_
    refine bq_goto (tgt := 19) dX1_greatestStart_15 (by decide) ?_
    exact bq_iret dX1_greatestStart_19 rfl (by first | rfl | decide) bq_ret_i
/-- what the links of a row become -/
def b_lk (x : bt_X) (a : Option Nat) : List Nat → bt_X
  | [] => x
  | o :: os => b_lk (match a with
    | none => bt_rs (bt_rs x 2 o 8 none) 2 o 9 none
    | some b => bt_rs (bt_rs (bt_rs x 2 o 8 (some b)) 2 o 9 none) 2 b 9 (some o)) (some o) os
def b_link (x : bt_X) (m : Nat) : bt_X := b_lk x none (x.2.2 (4 + m))
theorem b_lk_g (os : List Nat) : ∀ (x : bt_X) (a : Option Nat), (b_lk x a os).1 = x.1 ∧ (b_lk x a os).2.2 = x.2.2 := by
  induction os with
  | nil => intro x a; exact ⟨rfl, rfl⟩
  | cons o os ih =>
    intro x a
    cases a with
    | none => exact ⟨(ih _ _).1, (ih _ _).2⟩
    | some b => exact ⟨(ih _ _).1, (ih _ _).2⟩
theorem b_dropc {L : List Nat} {j o : Nat} {os : List Nat} (h : L.drop j = o :: os) : L[j]? = some o ∧ L.drop (j + 1) = os ∧ j < L.length := by
  have h1 : j < L.length := by
    rcases Nat.lt_or_ge j L.length with z | z
    · exact z
    · rw [List.drop_eq_nil_of_le z] at h; cases h
  have h2 := List.drop_eq_getElem_cons h1
  rw [h] at h2
  refine ⟨by rw [List.getElem?_eq_getElem h1]; congr 1; exact (List.cons.inj h2).1.symm, (List.cons.inj h2).2.symm, h1⟩
theorem b_drop0 {L : List Nat} {j : Nat} (h : L.drop j = []) : L.length ≤ j := List.drop_eq_nil_iff.mp h
set_option maxRecDepth 100000 in
set_option maxHeartbeats 400000 in
theorem c_link_l {G : bp_X} {α : bt_A} {σ : bt_X} {m : Nat} (hm : m < 4) (hV : bt_V α 1 m) (os : List Nat) : ∀ (x : bt_X) (j : Nat) (a : Option Nat), bt_J α σ x → (x.2.2 (4 + m)).length ≤ 33 → j ≤ 33 → (x.2.2 (4 + m)).drop j = os → (∀ b, a = some b → bt_V α 2 b) →
    bq_W G mX1_link 3 4 [(0, .ref (bt_ad α 1 m)), (1, va_rf (a.map (bt_ad α 2))), (2, .int (nI j))] [] (bt α σ x) (bq_ret none (bt α σ (b_lk x a os))) := by
  induction os with
  | nil =>
    intro x j a J hlen hj hd ha
    unfold b_lk
    refine bq_iload_n (i := 2) dX1_link_4 rfl ?_
    refine bq_aload_n (i := 0) dX1_link_5 rfl ?_
    refine bt_get3 (c' := 7) (n := (4 + m)) dX1_link_6 fl_X1_12 (by first | assumption | exact J.v3 | exact J.v4 | exact J.v5 | exact J.v6 | exact J.l0 | exact J.l1 | exact J.l2 | exact J.l3 | exact J.row (by assumption) | exact J.ops (by assumption) | exact J.job (by assumption)) ⟨rfl, rfl, rfl⟩ (by decide) ?_
    refine bt_size dX1_link_9 ml_X1_33 (by first | assumption | exact J.v3 | exact J.v4 | exact J.v5 | exact J.v6 | exact J.l0 | exact J.l1 | exact J.l2 | exact J.l3 | exact J.row (by assumption) | exact J.ops (by assumption) | exact J.job (by assumption)) (bt_lv (bt_sl_row (by assumption))) (by decide) (Nat.le_of_ble_eq_true rfl) ?_
    refine bq_icmp_ge (tgt := 54) dX1_link_12 (by decide) (fun c_12 => ?_) (fun z9_ => absurd (show nI (x.2.2 (4 + m)).length ≤ nI j from nI_le (b_drop0 hd) (by have := b_drop0 hd; omega)) z9_)
    exact bq_vret dX1_link_54 rfl bq_ret_i
  | cons o os ih =>
    intro x j a J hlen hj hd ha
    obtain ⟨ho, hd1, hj1⟩ := b_dropc hd
    unfold b_lk
    cases a with
    | none =>
      simp only []
      refine bq_iload_n (i := 2) dX1_link_4 rfl ?_
      refine bq_aload_n (i := 0) dX1_link_5 rfl ?_
      refine bt_get3 (c' := 7) (n := (4 + m)) dX1_link_6 fl_X1_12 (by first | assumption | exact J.v3 | exact J.v4 | exact J.v5 | exact J.v6 | exact J.l0 | exact J.l1 | exact J.l2 | exact J.l3 | exact J.row (by assumption) | exact J.ops (by assumption) | exact J.job (by assumption)) ⟨rfl, rfl, rfl⟩ (by decide) ?_
      refine bt_size dX1_link_9 ml_X1_33 (by first | assumption | exact J.v3 | exact J.v4 | exact J.v5 | exact J.v6 | exact J.l0 | exact J.l1 | exact J.l2 | exact J.l3 | exact J.row (by assumption) | exact J.ops (by assumption) | exact J.job (by assumption)) (bt_lv (bt_sl_row (by assumption))) (by decide) (Nat.le_of_ble_eq_true rfl) ?_
      refine bq_icmp_ge (tgt := 54) dX1_link_12 (by decide) (fun z9_ => absurd z9_ (show ¬ nI (x.2.2 (4 + m)).length ≤ nI j from nI_ge hj1 (by omega))) (fun c_12 => ?_)
      refine bq_aload_n (i := 0) dX1_link_15 rfl ?_
      refine bt_get3 (c' := 7) (n := (4 + m)) dX1_link_16 fl_X1_12 (by first | assumption | exact J.v3 | exact J.v4 | exact J.v5 | exact J.v6 | exact J.l0 | exact J.l1 | exact J.l2 | exact J.l3 | exact J.row (by assumption) | exact J.ops (by assumption) | exact J.job (by assumption)) ⟨rfl, rfl, rfl⟩ (by decide) ?_
      refine bq_iload_n (i := 2) dX1_link_19 rfl ?_
      refine bt_geti (j := j) (y := o) (c' := 2) dX1_link_20 ml_X1_37 (by first | assumption | exact J.v3 | exact J.v4 | exact J.v5 | exact J.v6 | exact J.l0 | exact J.l1 | exact J.l2 | exact J.l3 | exact J.row (by assumption) | exact J.ops (by assumption) | exact J.job (by assumption)) (bt_lv (bt_sl_row (by assumption))) rfl ho bt_lc_row (by decide) (Nat.le_of_ble_eq_true rfl) (fun v_20 => ?_)
      refine bt_cast (c := 2) dX1_link_23 rfl cl_X1_40 (by first | assumption | exact J.v3 | exact J.v4 | exact J.v5 | exact J.v6 | exact J.l0 | exact J.l1 | exact J.l2 | exact J.l3 | exact J.row (by assumption) | exact J.ops (by assumption) | exact J.job (by assumption)) (by decide) ?_
      refine bq_astore_n (i := 3) dX1_link_26 (by decide) ?_
      refine bq_aload_n (i := 3) dX1_link_27 rfl ?_
      refine bq_aload_nN (i := 1) dX1_link_28 rfl ?_
      refine bt_put2N dX1_link_29 fl_X1_50 (by first | assumption | exact J.v3 | exact J.v4 | exact J.v5 | exact J.v6 | exact J.l0 | exact J.l1 | exact J.l2 | exact J.l3 | exact J.row (by assumption) | exact J.ops (by assumption) | exact J.job (by assumption)) rfl (by decide) rfl rfl ?_
      refine bq_aload_n (i := 3) dX1_link_32 rfl ?_
      refine bq_null dX1_link_33 ?_
      refine bt_put2N dX1_link_34 fl_X1_54 (by first | assumption | exact J.v3 | exact J.v4 | exact J.v5 | exact J.v6 | exact J.l0 | exact J.l1 | exact J.l2 | exact J.l3 | exact J.row (by assumption) | exact J.ops (by assumption) | exact J.job (by assumption)) rfl (by decide) rfl rfl ?_
      refine bq_aload_nN (i := 1) dX1_link_37 rfl ?_
      refine bq_ifnullN (tgt := 46) dX1_link_38 (by decide) ?_
      refine bq_aload_n (i := 3) dX1_link_46 rfl ?_
      refine bq_astore_n (i := 1) dX1_link_47 (by decide) ?_
      refine bq_iinc dX1_link_48 rfl (by decide) (by first | exact bp_inc _ | rfl) ?_
      refine bq_goto (tgt := 4) dX1_link_51 (by decide) ?_
      refine bq_lvs (lv' := [(0, .ref (bt_ad α 1 m)), (1, va_rf ((some o).map (bt_ad α 2))), (2, .int (nI (j + 1)))]) ⟨rfl, rfl, rfl, trivial⟩ ?_
      exact ih _ (j + 1) (some o) ((J.rs (fun _ e => by cases e)).rs (fun _ e => by cases e)) hlen (by omega) hd1 (fun b e => by cases e; assumption)
    | some b =>
      have hb := ha b rfl
      simp only []
      refine bq_iload_n (i := 2) dX1_link_4 rfl ?_
      refine bq_aload_n (i := 0) dX1_link_5 rfl ?_
      refine bt_get3 (c' := 7) (n := (4 + m)) dX1_link_6 fl_X1_12 (by first | assumption | exact J.v3 | exact J.v4 | exact J.v5 | exact J.v6 | exact J.l0 | exact J.l1 | exact J.l2 | exact J.l3 | exact J.row (by assumption) | exact J.ops (by assumption) | exact J.job (by assumption)) ⟨rfl, rfl, rfl⟩ (by decide) ?_
      refine bt_size dX1_link_9 ml_X1_33 (by first | assumption | exact J.v3 | exact J.v4 | exact J.v5 | exact J.v6 | exact J.l0 | exact J.l1 | exact J.l2 | exact J.l3 | exact J.row (by assumption) | exact J.ops (by assumption) | exact J.job (by assumption)) (bt_lv (bt_sl_row (by assumption))) (by decide) (Nat.le_of_ble_eq_true rfl) ?_
      refine bq_icmp_ge (tgt := 54) dX1_link_12 (by decide) (fun z9_ => absurd z9_ (show ¬ nI (x.2.2 (4 + m)).length ≤ nI j from nI_ge hj1 (by omega))) (fun c_12 => ?_)
      refine bq_aload_n (i := 0) dX1_link_15 rfl ?_
      refine bt_get3 (c' := 7) (n := (4 + m)) dX1_link_16 fl_X1_12 (by first | assumption | exact J.v3 | exact J.v4 | exact J.v5 | exact J.v6 | exact J.l0 | exact J.l1 | exact J.l2 | exact J.l3 | exact J.row (by assumption) | exact J.ops (by assumption) | exact J.job (by assumption)) ⟨rfl, rfl, rfl⟩ (by decide) ?_
      refine bq_iload_n (i := 2) dX1_link_19 rfl ?_
      refine bt_geti (j := j) (y := o) (c' := 2) dX1_link_20 ml_X1_37 (by first | assumption | exact J.v3 | exact J.v4 | exact J.v5 | exact J.v6 | exact J.l0 | exact J.l1 | exact J.l2 | exact J.l3 | exact J.row (by assumption) | exact J.ops (by assumption) | exact J.job (by assumption)) (bt_lv (bt_sl_row (by assumption))) rfl ho bt_lc_row (by decide) (Nat.le_of_ble_eq_true rfl) (fun v_20 => ?_)
      refine bt_cast (c := 2) dX1_link_23 rfl cl_X1_40 (by first | assumption | exact J.v3 | exact J.v4 | exact J.v5 | exact J.v6 | exact J.l0 | exact J.l1 | exact J.l2 | exact J.l3 | exact J.row (by assumption) | exact J.ops (by assumption) | exact J.job (by assumption)) (by decide) ?_
      refine bq_astore_n (i := 3) dX1_link_26 (by decide) ?_
      refine bq_aload_n (i := 3) dX1_link_27 rfl ?_
      refine bq_aload_n (i := 1) dX1_link_28 rfl ?_
      refine bt_put2 (c' := 2) dX1_link_29 fl_X1_50 (by first | assumption | exact J.v3 | exact J.v4 | exact J.v5 | exact J.v6 | exact J.l0 | exact J.l1 | exact J.l2 | exact J.l3 | exact J.row (by assumption) | exact J.ops (by assumption) | exact J.job (by assumption)) ⟨rfl, rfl⟩ (by decide) rfl rfl ?_
      refine bq_aload_n (i := 3) dX1_link_32 rfl ?_
      refine bq_null dX1_link_33 ?_
      refine bt_put2N dX1_link_34 fl_X1_54 (by first | assumption | exact J.v3 | exact J.v4 | exact J.v5 | exact J.v6 | exact J.l0 | exact J.l1 | exact J.l2 | exact J.l3 | exact J.row (by assumption) | exact J.ops (by assumption) | exact J.job (by assumption)) rfl (by decide) rfl rfl ?_
      refine bq_aload_n (i := 1) dX1_link_37 rfl ?_
      refine bq_ifnull dX1_link_38 ?_
      refine bq_aload_n (i := 1) dX1_link_41 rfl ?_
      refine bq_aload_n (i := 3) dX1_link_42 rfl ?_
      refine bt_put2 (c' := 2) dX1_link_43 fl_X1_54 (by first | assumption | exact J.v3 | exact J.v4 | exact J.v5 | exact J.v6 | exact J.l0 | exact J.l1 | exact J.l2 | exact J.l3 | exact J.row (by assumption) | exact J.ops (by assumption) | exact J.job (by assumption)) ⟨rfl, rfl⟩ (by decide) rfl rfl ?_
      refine bq_aload_n (i := 3) dX1_link_46 rfl ?_
      refine bq_astore_n (i := 1) dX1_link_47 (by decide) ?_
      refine bq_iinc dX1_link_48 rfl (by decide) (by first | exact bp_inc _ | rfl) ?_
      refine bq_goto (tgt := 4) dX1_link_51 (by decide) ?_
      refine bq_lvs (lv' := [(0, .ref (bt_ad α 1 m)), (1, va_rf ((some o).map (bt_ad α 2))), (2, .int (nI (j + 1)))]) ⟨rfl, rfl, rfl, trivial⟩ ?_
      exact ih _ (j + 1) (some o) (((J.rs (fun _ e => by cases e; assumption)).rs (fun _ e => by cases e)).rs (fun _ e => by cases e; assumption)) hlen (by omega) hd1 (fun b e => by cases e; assumption)
set_option maxRecDepth 100000 in
set_option maxHeartbeats 400000 in
theorem c_link {G : bp_X} {α : bt_A} {σ x : bt_X} {m : Nat} (J : bt_J α σ x) (hV : bt_V α 1 m) (hlen : (x.2.2 (4 + m)).length ≤ 33) : bq_S G mX1_link 3 [.ref (bt_ad α 1 m)] (bt α σ x) (bq_ret none (bt α σ (b_link x m))) := by
  have hm := J.m4 hV
  refine bq_ofW (by decide +kernel) rfl (Nat.le_of_ble_eq_true rfl) ?_
  refine bq_null dX1_link_0 ?_
  refine bq_astore_nN (i := 1) dX1_link_1 (by decide) ?_
  refine bq_iconst (v := (nI 0)) dX1_link_2 (by decide) ?_
  refine bq_istore_n (i := 2) dX1_link_3 (by decide) ?_
  refine bq_lvs (lv' := [(0, .ref (bt_ad α 1 m)), (1, va_rf ((none : Option Nat).map (bt_ad α 2))), (2, .int (nI 0))]) ⟨rfl, rfl, rfl, trivial⟩ ?_
  exact c_link_l hm hV _ x 0 none J hlen (by omega) rfl (fun b e => by cases e)
def b_ins (x : bt_X) (m p o : Nat) : bt_X := b_link (bt_lp x (4 + m) ((x.2.2 (4 + m)).insertIdx p o)) m
def b_out (x : bt_X) (m p : Nat) : bt_X := b_link (bt_lp x (4 + m) ((x.2.2 (4 + m)).eraseIdx p)) m
theorem bt_lp_at {x : bt_X} {n : Nat} {v : List Nat} : (bt_lp x n v).2.2 n = v := by simp [bt_lp]
set_option maxRecDepth 100000 in
set_option maxHeartbeats 400000 in
theorem c_ins {G : bp_X} {α : bt_A} {σ x : bt_X} {m p o : Nat} (J : bt_J α σ x) (hV : bt_V α 1 m) (hO : bt_V α 2 o) (hlen : (x.2.2 (4 + m)).length < 33) (hp : p ≤ (x.2.2 (4 + m)).length) : bq_S G mX1_insert 7 [.ref (bt_ad α 1 m), .ref (bt_ad α 2 o), .int (nI p)] (bt α σ x) (bq_ret none (bt α σ (b_ins x m p o))) := by
  have hm := J.m4 hV
  refine bq_ofW (by decide +kernel) rfl (Nat.le_of_ble_eq_true rfl) ?_
  refine bq_aload_n (i := 0) dX1_insert_0 rfl ?_
  refine bt_get3 (c' := 7) (n := (4 + m)) dX1_insert_1 fl_X1_12 (by first | assumption | exact J.v3 | exact J.v4 | exact J.v5 | exact J.v6 | exact J.l0 | exact J.l1 | exact J.l2 | exact J.l3 | exact J.row (by assumption) | exact J.ops (by assumption) | exact J.job (by assumption)) ⟨rfl, rfl, rfl⟩ (by decide) ?_
  refine bq_iload_n (i := 2) dX1_insert_4 rfl ?_
  refine bq_aload_n (i := 1) dX1_insert_5 rfl ?_
  refine bt_addi (j := p) (c := 2) dX1_insert_6 ml_X1_22 (by first | assumption | exact J.v3 | exact J.v4 | exact J.v5 | exact J.v6 | exact J.l0 | exact J.l1 | exact J.l2 | exact J.l3 | exact J.row (by assumption) | exact J.ops (by assumption) | exact J.job (by assumption)) (bt_sl_row (by assumption)) rfl (by first | rfl | exact bt_lc_row.symm) (by first | assumption | exact J.v3 | exact J.v4 | exact J.v5 | exact J.v6 | exact J.l0 | exact J.l1 | exact J.l2 | exact J.l3 | exact J.row (by assumption) | exact J.ops (by assumption) | exact J.job (by assumption)) (by omega) (by omega) (by decide) (Nat.le_of_ble_eq_true rfl) ?_
  refine bq_aload_n (i := 0) dX1_insert_9 rfl ?_
  refine bt_callVr (c := 1) (i := m) dX1_insert_10 rfl ml_X1_26 (by first | assumption | exact J.v3 | exact J.v4 | exact J.v5 | exact J.v6 | exact J.l0 | exact J.l1 | exact J.l2 | exact J.l3 | exact J.row (by assumption) | exact J.ops (by assumption) | exact J.job (by assumption)) (by decide) (c_link J.lp hV (by rw [bt_lp_at, List.length_insertIdx_of_le_length hp]; omega)) (by decide) (by decide) (Nat.le_of_ble_eq_true rfl) rfl ?_
  exact bq_vret dX1_insert_13 rfl bq_ret_i
set_option maxRecDepth 100000 in
set_option maxHeartbeats 400000 in
theorem c_out {G : bp_X} {α : bt_A} {σ x : bt_X} {m p o : Nat} (J : bt_J α σ x) (hV : bt_V α 1 m) (hp : (x.2.2 (4 + m))[p]? = some o) (hlen : (x.2.2 (4 + m)).length ≤ 33) : bq_S G mX1_takeOut 4 [.ref (bt_ad α 1 m), .int (nI p)] (bt α σ x) (bq_ret none (bt α σ (b_out x m p))) := by
  have hm := J.m4 hV
  refine bq_ofW (by decide +kernel) rfl (Nat.le_of_ble_eq_true rfl) ?_
  refine bq_aload_n (i := 0) dX1_takeOut_0 rfl ?_
  refine bt_get3 (c' := 7) (n := (4 + m)) dX1_takeOut_1 fl_X1_12 (by first | assumption | exact J.v3 | exact J.v4 | exact J.v5 | exact J.v6 | exact J.l0 | exact J.l1 | exact J.l2 | exact J.l3 | exact J.row (by assumption) | exact J.ops (by assumption) | exact J.job (by assumption)) ⟨rfl, rfl, rfl⟩ (by decide) ?_
  refine bq_iload_n (i := 1) dX1_takeOut_4 rfl ?_
  refine bt_remove (j := p) (y := o) (c' := 2) dX1_takeOut_5 ml_X1_29 (by first | assumption | exact J.v3 | exact J.v4 | exact J.v5 | exact J.v6 | exact J.l0 | exact J.l1 | exact J.l2 | exact J.l3 | exact J.row (by assumption) | exact J.ops (by assumption) | exact J.job (by assumption)) (bt_sl_row (by assumption)) rfl hp bt_lc_row (by decide) (Nat.le_of_ble_eq_true rfl) ?_
  refine bq_pop dX1_takeOut_8 rfl ?_
  refine bq_aload_n (i := 0) dX1_takeOut_9 rfl ?_
  refine bt_callVr (c := 1) (i := m) dX1_takeOut_10 rfl ml_X1_26 (by first | assumption | exact J.v3 | exact J.v4 | exact J.v5 | exact J.v6 | exact J.l0 | exact J.l1 | exact J.l2 | exact J.l3 | exact J.row (by assumption) | exact J.ops (by assumption) | exact J.job (by assumption)) (by decide) (c_link J.lp hV (by rw [bt_lp_at]; exact Nat.le_trans (List.length_eraseIdx_le _ _) hlen)) (by decide) (by decide) (Nat.le_of_ble_eq_true rfl) rfl ?_
  exact bq_vret dX1_takeOut_13 rfl bq_ret_i
theorem b_get_take {L M : List Nat} {i : Nat} (hi : i < L.length) : (L.take (i + 1) ++ M)[i]? = some L[i] := by
  rw [List.getElem?_append_left (by rw [List.length_take]; omega), List.getElem?_take_of_lt (by omega), List.getElem?_eq_getElem hi]
theorem b_era_take {L M : List Nat} {i : Nat} (hi : i < L.length) : (L.take (i + 1) ++ M).eraseIdx i = L.take i ++ M := by
  rw [List.eraseIdx_append_of_lt_length (by rw [List.length_take]; omega)]
  congr 1
  rw [List.take_succ_eq_append_getElem hi, List.eraseIdx_append_of_length_le (by rw [List.length_take]; omega)]
  have : i - (L.take i).length = 0 := by rw [List.length_take]; omega
  rw [this]
  simp
def b_keep (j : Nat) (L : List Nat) : List Nat := L.filter (fun o => decide (¬ o / 4 = j))
def b_outAll (x : bt_X) (m j : Nat) : bt_X := b_link (bt_lp x (4 + m) (b_keep j (x.2.2 (4 + m)))) m
theorem bt_lp_lp {x : bt_X} {n : Nat} {u v : List Nat} : bt_lp (bt_lp x n u) n v = bt_lp x n v := by
  unfold bt_lp
  simp only []
  congr 2
  funext m
  by_cases e : m = n <;> simp [e]
theorem bt_lp_id {x : bt_X} {n : Nat} : bt_lp x n (x.2.2 n) = x := by
  unfold bt_lp
  have : (fun m => if m = n then x.2.2 n else x.2.2 m) = x.2.2 := by
    funext m
    by_cases e : m = n <;> simp [e]
  rw [this]
theorem b_link_lp {x : bt_X} {m : Nat} {v : List Nat} : b_link (bt_lp x (4 + m) v) m = b_lk (bt_lp x (4 + m) v) none v := by
  unfold b_link
  rw [bt_lp_at]
set_option maxRecDepth 100000 in
set_option maxHeartbeats 400000 in
theorem c_outAll_l {G : bp_X} {α : bt_A} {σ x : bt_X} {m j : Nat} (J : bt_J α σ x) (hV : bt_V α 1 m) (hVj : bt_V α 0 j) (L : List Nat) (hL : L.length ≤ 33) : ∀ (i : Nat), i ≤ L.length →
    bq_W G mX1_takeOutAllOf 4 10 [(0, .ref (bt_ad α 1 m)), (1, .ref (bt_ad α 0 j)), (2, .int (nI i - nI 1))] [] (bt α σ (bt_lp x (4 + m) (L.take i ++ b_keep j (L.drop i)))) (bq_ret none (bt α σ (b_link (bt_lp x (4 + m) (b_keep j L)) m))) := by
  have hm := J.m4 hV
  intro i
  induction i with
  | zero =>
    intro hi
    rw [List.take_zero, List.drop_zero, List.nil_append]
    refine bq_iload_n (i := 2) dX1_takeOutAllOf_10 rfl ?_
    refine bq_if_lt (tgt := 47) dX1_takeOutAllOf_11 (by decide) (fun c_11 => ?_) (fun z9_ => absurd (show (nI 0 - nI 1 : Int32) < 0 by decide) z9_)
    refine bq_aload_n (i := 0) dX1_takeOutAllOf_47 rfl ?_
    refine bt_callVr (c := 1) (i := m) dX1_takeOutAllOf_48 rfl ml_X1_26 (by first | assumption | exact J.v3 | exact J.v4 | exact J.v5 | exact J.v6 | exact J.l0 | exact J.l1 | exact J.l2 | exact J.l3 | exact J.row (by assumption) | exact J.ops (by assumption) | exact J.job (by assumption)) (by decide) (c_link (J.lp) hV (by rw [bt_lp_at]; exact Nat.le_trans (List.length_filter_le _ _) hL)) (by decide) (by decide) (Nat.le_of_ble_eq_true rfl) rfl ?_
    exact bq_vret dX1_takeOutAllOf_51 rfl bq_ret_i
  | succ i ih =>
    intro hi
    have hii : i < L.length := by omega
    have e1 : (nI (i + 1) - nI 1 : Int32) = nI i := by rw [pk_sub (by omega)]; rfl
    rw [e1]
    have hd := List.drop_eq_getElem_cons hii
    have hb : b_keep j (L.drop i) = if L[i] / 4 = j then b_keep j (L.drop (i + 1)) else L[i] :: b_keep j (L.drop (i + 1)) := by
      rw [hd]
      unfold b_keep
      rw [List.filter_cons]
      by_cases e : L[i] / 4 = j <;> simp [e]
    have ih := ih (by omega)
    refine bq_iload_n (i := 2) dX1_takeOutAllOf_10 rfl ?_
    refine bq_if_lt (tgt := 47) dX1_takeOutAllOf_11 (by decide) (fun z9_ => absurd z9_ (show ¬ nI i < 0 from nI_pos (by omega))) (fun c_11 => ?_)
    refine bq_aload_n (i := 0) dX1_takeOutAllOf_14 rfl ?_
    refine bt_get3 (c' := 7) (n := (4 + m)) dX1_takeOutAllOf_15 fl_X1_12 (by first | assumption | exact J.v3 | exact J.v4 | exact J.v5 | exact J.v6 | exact J.l0 | exact J.l1 | exact J.l2 | exact J.l3 | exact J.row (by assumption) | exact J.ops (by assumption) | exact J.job (by assumption)) ⟨rfl, rfl, rfl⟩ (by decide) ?_
    refine bq_iload_n (i := 2) dX1_takeOutAllOf_18 rfl ?_
    refine bt_geti (j := i) (y := L[i]) (c' := 2) dX1_takeOutAllOf_19 ml_X1_37 (by first | assumption | exact J.v3 | exact J.v4 | exact J.v5 | exact J.v6 | exact J.l0 | exact J.l1 | exact J.l2 | exact J.l3 | exact J.row (by assumption) | exact J.ops (by assumption) | exact J.job (by assumption)) (bt_lv (bt_sl_row (by assumption))) rfl (by rw [bt_lp_at]; exact b_get_take hii) bt_lc_row (by decide) (Nat.le_of_ble_eq_true rfl) (fun v_19 => ?_)
    refine bt_cast (c := 2) dX1_takeOutAllOf_22 rfl cl_X1_40 (by first | assumption | exact J.v3 | exact J.v4 | exact J.v5 | exact J.v6 | exact J.l0 | exact J.l1 | exact J.l2 | exact J.l3 | exact J.row (by assumption) | exact J.ops (by assumption) | exact J.job (by assumption)) (by decide) ?_
    refine bt_get3 (c' := 0) (n := (L[i] / 4)) dX1_takeOutAllOf_25 fl_X1_42 (by first | assumption | exact J.v3 | exact J.v4 | exact J.v5 | exact J.v6 | exact J.l0 | exact J.l1 | exact J.l2 | exact J.l3 | exact J.row (by assumption) | exact J.ops (by assumption) | exact J.job (by assumption)) ⟨rfl, rfl, rfl⟩ (by decide) ?_
    refine bq_aload_n (i := 1) dX1_takeOutAllOf_28 rfl ?_
    refine bt_acmp_ne (c := 0) (tgt := 41) dX1_takeOutAllOf_29 (by decide) (by first | assumption | exact J.v3 | exact J.v4 | exact J.v5 | exact J.v6 | exact J.l0 | exact J.l1 | exact J.l2 | exact J.l3 | exact J.row (by assumption) | exact J.ops (by assumption) | exact J.job (by assumption)) (by first | assumption | exact J.v3 | exact J.v4 | exact J.v5 | exact J.v6 | exact J.l0 | exact J.l1 | exact J.l2 | exact J.l3 | exact J.row (by assumption) | exact J.ops (by assumption) | exact J.job (by assumption)) (by decide) (fun c_29 => ?_) (fun c_29 => ?_)
    · rw [hb, if_neg c_29] at ih
      refine bq_iinc dX1_takeOutAllOf_41 rfl (by decide) (show nI i + Int32.ofInt (-1) = nI i - nI 1 by rw [Int32.sub_eq_add_neg]; rfl) ?_
      refine bq_goto (tgt := 10) dX1_takeOutAllOf_44 (by decide) ?_
      refine bq_lvs (lv' := [(0, .ref (bt_ad α 1 m)), (1, .ref (bt_ad α 0 j)), (2, .int (nI i - nI 1))]) ⟨rfl, rfl, rfl, trivial⟩ ?_
      first | exact ih | (rw [List.take_succ_eq_append_getElem hii, List.append_assoc]; exact ih)
    · rw [hb, if_pos c_29] at ih
      refine bq_aload_n (i := 0) dX1_takeOutAllOf_32 rfl ?_
      refine bt_get3 (c' := 7) (n := (4 + m)) dX1_takeOutAllOf_33 fl_X1_12 (by first | assumption | exact J.v3 | exact J.v4 | exact J.v5 | exact J.v6 | exact J.l0 | exact J.l1 | exact J.l2 | exact J.l3 | exact J.row (by assumption) | exact J.ops (by assumption) | exact J.job (by assumption)) ⟨rfl, rfl, rfl⟩ (by decide) ?_
      refine bq_iload_n (i := 2) dX1_takeOutAllOf_36 rfl ?_
      refine bt_remove (j := i) (y := L[i]) (c' := 2) dX1_takeOutAllOf_37 ml_X1_29 (by first | assumption | exact J.v3 | exact J.v4 | exact J.v5 | exact J.v6 | exact J.l0 | exact J.l1 | exact J.l2 | exact J.l3 | exact J.row (by assumption) | exact J.ops (by assumption) | exact J.job (by assumption)) (bt_sl_row (by assumption)) rfl (by rw [bt_lp_at]; exact b_get_take hii) bt_lc_row (by decide) (Nat.le_of_ble_eq_true rfl) ?_
      refine bq_pop dX1_takeOutAllOf_40 rfl ?_
      rw [bt_lp_at, bt_lp_lp, b_era_take hii]
      refine bq_eqw (w2 := bt α σ (bt_lp x (4 + m) (L.take i ++ b_keep j (L.drop (i + 1))))) rfl ?_
      refine bq_iinc dX1_takeOutAllOf_41 rfl (by decide) (show nI i + Int32.ofInt (-1) = nI i - nI 1 by rw [Int32.sub_eq_add_neg]; rfl) ?_
      refine bq_goto (tgt := 10) dX1_takeOutAllOf_44 (by decide) ?_
      refine bq_lvs (lv' := [(0, .ref (bt_ad α 1 m)), (1, .ref (bt_ad α 0 j)), (2, .int (nI i - nI 1))]) ⟨rfl, rfl, rfl, trivial⟩ ?_
      first | exact ih | (rw [List.take_succ_eq_append_getElem hii, List.append_assoc]; exact ih)
set_option maxRecDepth 100000 in
set_option maxHeartbeats 400000 in
theorem c_outAll {G : bp_X} {α : bt_A} {σ x : bt_X} {m j : Nat} (J : bt_J α σ x) (hV : bt_V α 1 m) (hVj : bt_V α 0 j) (hlen : (x.2.2 (4 + m)).length ≤ 33) : bq_S G mX1_takeOutAllOf 4 [.ref (bt_ad α 1 m), .ref (bt_ad α 0 j)] (bt α σ x) (bq_ret none (bt α σ (b_outAll x m j))) := by
  have hm := J.m4 hV
  refine bq_ofW (by decide +kernel) rfl (Nat.le_of_ble_eq_true rfl) ?_
  refine bq_aload_n (i := 0) dX1_takeOutAllOf_0 rfl ?_
  refine bt_get3 (c' := 7) (n := (4 + m)) dX1_takeOutAllOf_1 fl_X1_12 (by first | assumption | exact J.v3 | exact J.v4 | exact J.v5 | exact J.v6 | exact J.l0 | exact J.l1 | exact J.l2 | exact J.l3 | exact J.row (by assumption) | exact J.ops (by assumption) | exact J.job (by assumption)) ⟨rfl, rfl, rfl⟩ (by decide) ?_
  refine bt_size dX1_takeOutAllOf_4 ml_X1_33 (by first | assumption | exact J.v3 | exact J.v4 | exact J.v5 | exact J.v6 | exact J.l0 | exact J.l1 | exact J.l2 | exact J.l3 | exact J.row (by assumption) | exact J.ops (by assumption) | exact J.job (by assumption)) (bt_lv (bt_sl_row (by assumption))) (by decide) (Nat.le_of_ble_eq_true rfl) ?_
  refine bq_iconst (v := (nI 1)) dX1_takeOutAllOf_7 (by decide) ?_
  refine bq_isub dX1_takeOutAllOf_8 ?_
  refine bq_istore_n (i := 2) dX1_takeOutAllOf_9 (by decide) ?_
  refine bq_lvs (lv' := [(0, .ref (bt_ad α 1 m)), (1, .ref (bt_ad α 0 j)), (2, .int (nI (x.2.2 (4 + m)).length - nI 1))]) ⟨rfl, rfl, rfl, trivial⟩ ?_
  have g := c_outAll_l (G := G) J hV hVj (x.2.2 (4 + m)) hlen (x.2.2 (4 + m)).length (Nat.le_refl _)
  rw [List.take_length, List.drop_length, show b_keep j [] = [] from rfl, List.append_nil, bt_lp_id] at g
  exact g
def b_exch (x : bt_X) (m p a b : Nat) : bt_X := b_link (bt_lp x (4 + m) (((x.2.2 (4 + m)).set p b).set (p + 1) a)) m
section LDW
variable {G : bp_X} {M : bp_M} {d pc : Nat} {lv : List (Nat × Value)} {st : List Value} {w : bq_O} {Φ : bp_O → bq_O → Prop}
theorem bq_ldcw {index : Nat} {v : Int32} (hd : decode (bp_c M) pc = .ok (.ldc_w index, 3)) (hw : Cond.constant (bp_own_ M) index v ∈ bp_UW) (k : bq_W G M d (pc + 3) lv (.int v :: st) w Φ) : bq_W G M d pc lv st w Φ := by
  intro h hH p e R s m args below meth c H locs ls hC hR hS hL hu
  exact lv_ldcw hC.1 hC.2.1 hC.2.2.2.2.1 (hC.2.2.2.2.2.1 _ hw) hd (k h hH p e R s m args below meth c H locs ls hC hR hS hL hu)
end LDW
def b_ush (x y : Int32) : Int32 := (x.toUInt32 >>> (y.toUInt32 &&& Int32.toUInt32 31)).toInt32
def b_bc1 (x : Int32) : Int32 := x - (b_ush x (nI 1) &&& (1431655765 : Int32))
def b_bc2 (x : Int32) : Int32 := (x &&& (858993459 : Int32)) + (b_ush x (nI 2) &&& (858993459 : Int32))
def b_bc3 (x : Int32) : Int32 := (x + b_ush x (nI 4)) &&& (252645135 : Int32)
def b_bc4 (x : Int32) : Int32 := x + b_ush x (nI 8)
def b_bc5 (x : Int32) : Int32 := x + b_ush x (nI 16)
/-- how many bits are set, as the library counts -/
def b_bc (x : Int32) : Int32 := b_bc5 (b_bc4 (b_bc3 (b_bc2 (b_bc1 x)))) &&& nI 63
theorem kc_J6_265 : Cond.constant "java/lang/Integer" 265 (1431655765 : Int32) ∈ bp_UW := bp_uw 454 (by decide +kernel) (by decide +kernel)
theorem kc_J6_266 : Cond.constant "java/lang/Integer" 266 (858993459 : Int32) ∈ bp_UW := bp_uw 455 (by decide +kernel) (by decide +kernel)
theorem kc_J6_267 : Cond.constant "java/lang/Integer" 267 (252645135 : Int32) ∈ bp_UW := bp_uw 456 (by decide +kernel) (by decide +kernel)
set_option maxRecDepth 100000 in
set_option maxHeartbeats 400000 in
theorem c_bc {G : bp_X} {w : bq_O} {v : Int32} : bq_S G mJ6_bitCount_0f7a4 0 [.int v] w (bq_ret (some (.int (b_bc v))) w) := by
  refine bq_ofW (by decide +kernel) rfl (Nat.le_of_ble_eq_true rfl) ?_
  refine bq_iload_n (i := 0) dJ6_bitCount_0f7a4_0 rfl ?_
  refine bq_iload_n (i := 0) dJ6_bitCount_0f7a4_1 rfl ?_
  refine bq_iconst (v := (nI 1)) dJ6_bitCount_0f7a4_2 (by decide) ?_
  refine bq_iushr dJ6_bitCount_0f7a4_3 rfl ?_
  refine bq_ldcw dJ6_bitCount_0f7a4_4 kc_J6_265 ?_
  refine bq_iand dJ6_bitCount_0f7a4_7 ?_
  refine bq_isub dJ6_bitCount_0f7a4_8 ?_
  refine bq_istore_n (i := 0) dJ6_bitCount_0f7a4_9 (by decide) ?_
  refine bq_iload_n (i := 0) dJ6_bitCount_0f7a4_10 rfl ?_
  refine bq_ldcw dJ6_bitCount_0f7a4_11 kc_J6_266 ?_
  refine bq_iand dJ6_bitCount_0f7a4_14 ?_
  refine bq_iload_n (i := 0) dJ6_bitCount_0f7a4_15 rfl ?_
  refine bq_iconst (v := (nI 2)) dJ6_bitCount_0f7a4_16 (by decide) ?_
  refine bq_iushr dJ6_bitCount_0f7a4_17 rfl ?_
  refine bq_ldcw dJ6_bitCount_0f7a4_18 kc_J6_266 ?_
  refine bq_iand dJ6_bitCount_0f7a4_21 ?_
  refine bq_iadd dJ6_bitCount_0f7a4_22 ?_
  refine bq_istore_n (i := 0) dJ6_bitCount_0f7a4_23 (by decide) ?_
  refine bq_iload_n (i := 0) dJ6_bitCount_0f7a4_24 rfl ?_
  refine bq_iload_n (i := 0) dJ6_bitCount_0f7a4_25 rfl ?_
  refine bq_iconst (v := (nI 4)) dJ6_bitCount_0f7a4_26 (by decide) ?_
  refine bq_iushr dJ6_bitCount_0f7a4_27 rfl ?_
  refine bq_iadd dJ6_bitCount_0f7a4_28 ?_
  refine bq_ldcw dJ6_bitCount_0f7a4_29 kc_J6_267 ?_
  refine bq_iand dJ6_bitCount_0f7a4_32 ?_
  refine bq_istore_n (i := 0) dJ6_bitCount_0f7a4_33 (by decide) ?_
  refine bq_iload_n (i := 0) dJ6_bitCount_0f7a4_34 rfl ?_
  refine bq_iload_n (i := 0) dJ6_bitCount_0f7a4_35 rfl ?_
  refine bq_bipush (v := (nI 8)) dJ6_bitCount_0f7a4_36 (by decide) ?_
  refine bq_iushr dJ6_bitCount_0f7a4_38 rfl ?_
  refine bq_iadd dJ6_bitCount_0f7a4_39 ?_
  refine bq_istore_n (i := 0) dJ6_bitCount_0f7a4_40 (by decide) ?_
  refine bq_iload_n (i := 0) dJ6_bitCount_0f7a4_41 rfl ?_
  refine bq_iload_n (i := 0) dJ6_bitCount_0f7a4_42 rfl ?_
  refine bq_bipush (v := (nI 16)) dJ6_bitCount_0f7a4_43 (by decide) ?_
  refine bq_iushr dJ6_bitCount_0f7a4_45 rfl ?_
  refine bq_iadd dJ6_bitCount_0f7a4_46 ?_
  refine bq_istore_n (i := 0) dJ6_bitCount_0f7a4_47 (by decide) ?_
  refine bq_iload_n (i := 0) dJ6_bitCount_0f7a4_48 rfl ?_
  refine bq_bipush (v := (nI 63)) dJ6_bitCount_0f7a4_49 (by decide) ?_
  refine bq_iand dJ6_bitCount_0f7a4_51 ?_
  exact bq_iret dJ6_bitCount_0f7a4_52 rfl (by first | rfl | decide) bq_ret_i
def b_nlGo (σ : bt_X) : Int32 → List Nat → Int32
  | left, [] => left
  | left, o :: os => if left &&& (σ.1 2 o 5 ^^^ (-1 : Int32)) = 0 then left else b_nlGo σ (left &&& (σ.1 2 o 5 ^^^ (-1 : Int32))) os
def b_nl (σ x : bt_X) (m : Nat) (tools : Int32) (j : Nat) : Int32 := b_nlGo σ tools ((x.2.2 (4 + m)).drop j) &&& -(b_nlGo σ tools ((x.2.2 (4 + m)).drop j))
set_option maxRecDepth 100000 in
set_option maxHeartbeats 400000 in
theorem c_nl_l {G : bp_X} {α : bt_A} {σ x : bt_X} {m : Nat} (J : bt_J α σ x) (hV : bt_V α 1 m) (hlen : (x.2.2 (4 + m)).length ≤ 33) {r : Int32} (os : List Nat) : ∀ (j : Nat) (left : Int32), j ≤ 34 → (x.2.2 (4 + m)).drop j = os → b_nlGo σ left os &&& -(b_nlGo σ left os) = r →
    bq_W G mX1_neededLast 3 5 [(0, .ref (bt_ad α 1 m)), (3, .int left), (4, .int (nI j))] [] (bt α σ x) (bq_ret (some (.int r)) (bt α σ x)) := by
  have hm := J.m4 hV
  induction os with
  | nil =>
    intro j left hj hd hr
    unfold b_nlGo at hr
    refine bq_iload (i := 4) dX1_neededLast_5 rfl ?_
    refine bq_aload_n (i := 0) dX1_neededLast_7 rfl ?_
    refine bt_get3 (c' := 7) (n := (4 + m)) dX1_neededLast_8 fl_X1_12 (by first | assumption | exact J.v3 | exact J.v4 | exact J.v5 | exact J.v6 | exact J.l0 | exact J.l1 | exact J.l2 | exact J.l3 | exact J.row (by assumption) | exact J.ops (by assumption) | exact J.job (by assumption)) ⟨rfl, rfl, rfl⟩ (by decide) ?_
    refine bt_size dX1_neededLast_11 ml_X1_33 (by first | assumption | exact J.v3 | exact J.v4 | exact J.v5 | exact J.v6 | exact J.l0 | exact J.l1 | exact J.l2 | exact J.l3 | exact J.row (by assumption) | exact J.ops (by assumption) | exact J.job (by assumption)) (bt_lv (bt_sl_row (by assumption))) (by decide) (Nat.le_of_ble_eq_true rfl) ?_
    refine bq_icmp_ge (tgt := 55) dX1_neededLast_14 (by decide) (fun c_14 => ?_) (fun z9_ => absurd (show nI (x.2.2 (4 + m)).length ≤ nI j from nI_le (b_drop0 hd) (by omega)) z9_)
    refine bq_iload_n (i := 3) dX1_neededLast_55 rfl ?_
    refine bq_iload_n (i := 3) dX1_neededLast_56 rfl ?_
    refine bq_ineg dX1_neededLast_57 ?_
    refine bq_iand dX1_neededLast_58 ?_
    rw [hr]
    exact bq_iret dX1_neededLast_59 rfl (by first | rfl | decide) bq_ret_i
  | cons o os ih =>
    intro j left hj hd hr
    obtain ⟨ho, hd1, hj1⟩ := b_dropc hd
    unfold b_nlGo at hr
    refine bq_iload (i := 4) dX1_neededLast_5 rfl ?_
    refine bq_aload_n (i := 0) dX1_neededLast_7 rfl ?_
    refine bt_get3 (c' := 7) (n := (4 + m)) dX1_neededLast_8 fl_X1_12 (by first | assumption | exact J.v3 | exact J.v4 | exact J.v5 | exact J.v6 | exact J.l0 | exact J.l1 | exact J.l2 | exact J.l3 | exact J.row (by assumption) | exact J.ops (by assumption) | exact J.job (by assumption)) ⟨rfl, rfl, rfl⟩ (by decide) ?_
    refine bt_size dX1_neededLast_11 ml_X1_33 (by first | assumption | exact J.v3 | exact J.v4 | exact J.v5 | exact J.v6 | exact J.l0 | exact J.l1 | exact J.l2 | exact J.l3 | exact J.row (by assumption) | exact J.ops (by assumption) | exact J.job (by assumption)) (bt_lv (bt_sl_row (by assumption))) (by decide) (Nat.le_of_ble_eq_true rfl) ?_
    refine bq_icmp_ge (tgt := 55) dX1_neededLast_14 (by decide) (fun z9_ => absurd z9_ (show ¬ nI (x.2.2 (4 + m)).length ≤ nI j from nI_ge hj1 (by omega))) (fun c_14 => ?_)
    refine bq_iload_n (i := 3) dX1_neededLast_17 rfl ?_
    refine bq_aload_n (i := 0) dX1_neededLast_18 rfl ?_
    refine bt_get3 (c' := 7) (n := (4 + m)) dX1_neededLast_19 fl_X1_12 (by first | assumption | exact J.v3 | exact J.v4 | exact J.v5 | exact J.v6 | exact J.l0 | exact J.l1 | exact J.l2 | exact J.l3 | exact J.row (by assumption) | exact J.ops (by assumption) | exact J.job (by assumption)) ⟨rfl, rfl, rfl⟩ (by decide) ?_
    refine bq_iload (i := 4) dX1_neededLast_22 rfl ?_
    refine bt_geti (j := j) (y := o) (c' := 2) dX1_neededLast_24 ml_X1_37 (by first | assumption | exact J.v3 | exact J.v4 | exact J.v5 | exact J.v6 | exact J.l0 | exact J.l1 | exact J.l2 | exact J.l3 | exact J.row (by assumption) | exact J.ops (by assumption) | exact J.job (by assumption)) (bt_lv (bt_sl_row (by assumption))) rfl ho bt_lc_row (by decide) (Nat.le_of_ble_eq_true rfl) (fun v_24 => ?_)
    refine bt_cast (c := 2) dX1_neededLast_27 rfl cl_X1_40 (by first | assumption | exact J.v3 | exact J.v4 | exact J.v5 | exact J.v6 | exact J.l0 | exact J.l1 | exact J.l2 | exact J.l3 | exact J.row (by assumption) | exact J.ops (by assumption) | exact J.job (by assumption)) (by decide) ?_
    refine bt_get4 dX1_neededLast_30 fl_X1_71 (by first | assumption | exact J.v3 | exact J.v4 | exact J.v5 | exact J.v6 | exact J.l0 | exact J.l1 | exact J.l2 | exact J.l3 | exact J.row (by assumption) | exact J.ops (by assumption) | exact J.job (by assumption)) rfl (by decide) ?_
    refine bq_iconst (v := (-1 : Int32)) dX1_neededLast_33 (by decide) ?_
    refine bq_ixor dX1_neededLast_34 ?_
    refine bq_iand dX1_neededLast_35 ?_
    refine bq_istore (i := 5) dX1_neededLast_36 (by decide) ?_
    refine bq_iload (i := 5) dX1_neededLast_38 rfl ?_
    refine bq_if_ne (tgt := 46) dX1_neededLast_40 (by decide) (fun c_40 => ?_) (fun c_40 => ?_)
    · rw [if_neg c_40] at hr
      refine bq_iload (i := 5) dX1_neededLast_46 rfl ?_
      refine bq_istore_n (i := 3) dX1_neededLast_48 (by decide) ?_
      refine bq_iinc dX1_neededLast_49 rfl (by decide) (by first | exact bp_inc _ | rfl) ?_
      refine bq_goto (tgt := 5) dX1_neededLast_52 (by decide) ?_
      refine bq_lvs (lv' := [(0, .ref (bt_ad α 1 m)), (3, .int (left &&& (σ.1 2 o 5 ^^^ (-1 : Int32)))), (4, .int (nI (j + 1)))]) ⟨rfl, rfl, rfl, trivial⟩ ?_
      exact ih (j + 1) _ (by omega) hd1 hr
    · rw [if_pos c_40] at hr
      refine bq_goto (tgt := 55) dX1_neededLast_43 (by decide) ?_
      refine bq_iload_n (i := 3) dX1_neededLast_55 rfl ?_
      refine bq_iload_n (i := 3) dX1_neededLast_56 rfl ?_
      refine bq_ineg dX1_neededLast_57 ?_
      refine bq_iand dX1_neededLast_58 ?_
      rw [hr]
      exact bq_iret dX1_neededLast_59 rfl (by first | rfl | decide) bq_ret_i
set_option maxRecDepth 100000 in
set_option maxHeartbeats 400000 in
theorem c_nl {G : bp_X} {α : bt_A} {σ x : bt_X} {m j : Nat} {tools : Int32} (J : bt_J α σ x) (hV : bt_V α 1 m) (hlen : (x.2.2 (4 + m)).length ≤ 33) (hj : j ≤ 34) : bq_S G mX1_neededLast 3 [.ref (bt_ad α 1 m), .int tools, .int (nI j)] (bt α σ x) (bq_ret (some (.int (b_nl σ x m tools j))) (bt α σ x)) := by
  refine bq_ofW (by decide +kernel) rfl (Nat.le_of_ble_eq_true rfl) ?_
  refine bq_iload_n (i := 1) dX1_neededLast_0 rfl ?_
  refine bq_istore_n (i := 3) dX1_neededLast_1 (by decide) ?_
  refine bq_iload_n (i := 2) dX1_neededLast_2 rfl ?_
  refine bq_istore (i := 4) dX1_neededLast_3 (by decide) ?_
  refine bq_lvs (lv' := [(0, .ref (bt_ad α 1 m)), (3, .int (tools)), (4, .int (nI j))]) ⟨rfl, rfl, rfl, trivial⟩ ?_
  exact c_nl_l J hV hlen _ j tools hj rfl rfl
def b_ex (σ x : bt_X) (m : Nat) (need : Int32) (j : Nat) : Nat → Int32 → Int32
  | 0, ins => ins
  | n + 1, ins => b_ex σ x m need j n (ins &&& (b_nl σ x m (ins &&& (need ^^^ (-1 : Int32))) (j + 1) ^^^ (-1 : Int32)))
def b_ll (σ x : bt_X) (m : Nat) : Nat → List Nat → Int32 → Int32 → Int32
  | _, [], _, p => p
  | j, o :: os, ins, p => b_ll σ x m (j + 1) os (b_ex σ x m (σ.1 2 o 5) j (b_bc (ins ||| σ.1 2 o 5) - σ.1 1 m 1).toNatClampNeg (ins ||| σ.1 2 o 5)) (p + b_bc (σ.1 2 o 5 &&& (ins ^^^ (-1 : Int32))))
def b_loads (σ x : bt_X) (m : Nat) : Int32 := b_ll σ x m 0 (x.2.2 (4 + m)) (nI 0) (nI 0)
theorem b_pos_nat {e : Int32} (h : 0 < e) : e = nI e.toNatClampNeg := by
  have h1 : (0 : Int) < e.toInt := Int32.lt_iff_toInt_lt.mp h
  apply Int32.toInt_inj.mp
  have h2 : e.toInt < 2 ^ 31 := Int32.toInt_lt e
  unfold nI
  rw [Int32.toInt_ofNat_of_lt (by unfold Int32.toNatClampNeg; omega)]
  unfold Int32.toNatClampNeg
  omega
theorem b_npos_nat {e : Int32} (h : ¬ 0 < e) : e.toNatClampNeg = 0 := by
  have h1 : ¬ (0 : Int) < e.toInt := fun z => h (Int32.lt_iff_toInt_lt.mpr z)
  unfold Int32.toNatClampNeg
  omega
theorem b_toNat_nI {n : Nat} (h : n < 2 ^ 31) : (nI n).toNatClampNeg = n := by
  unfold Int32.toNatClampNeg nI
  rw [Int32.toInt_ofNat_of_lt h]
  rfl
theorem b_le0 {e : Int32} (h : ¬ 0 < e) : e ≤ 0 := Int32.not_lt.mp h
set_option maxRecDepth 100000 in
set_option maxHeartbeats 400000 in
theorem c_ex_l {G : bp_X} {α : bt_A} {σ x : bt_X} {m : Nat} (J : bt_J α σ x) (hV : bt_V α 1 m) (hlen : (x.2.2 (4 + m)).length ≤ 33) {need p : Int32} {j : Nat} (hj : j < 33) {Φ : bp_O → bq_O → Prop} : ∀ (n : Nat) (e ins : Int32), e.toNatClampNeg = n →
    bq_W G mX1_leastLoads 4 90 [(0, .ref (bt_ad α 1 m)), (1, .int (b_ex σ x m need j n ins)), (2, .int p), (3, .int (nI j))] [] (bt α σ x) Φ →
    bq_W G mX1_leastLoads 4 61 [(0, .ref (bt_ad α 1 m)), (1, .int ins), (2, .int p), (3, .int (nI j)), (4, .int need), (5, .int e)] [] (bt α σ x) Φ := by
  intro n
  induction n with
  | zero =>
    intro e ins he kk
    have h0 : ¬ 0 < e := fun z => by
      have h1 := b_pos_nat z
      rw [he] at h1
      subst h1
      exact absurd z (by decide)
    refine bq_iload (i := 5) dX1_leastLoads_61 rfl ?_
    refine bq_if_le (tgt := 90) dX1_leastLoads_63 (by decide) (fun c_63 => ?_) (fun z9_ => absurd (b_le0 h0) z9_)
    refine bq_lvs (lv' := [(0, .ref (bt_ad α 1 m)), (1, .int ins), (2, .int p), (3, .int (nI j))]) ⟨rfl, rfl, rfl, rfl, trivial⟩ ?_
    exact kk
  | succ n ih =>
    intro e ins he kk
    have h0 : 0 < e := by
      refine Decidable.byContradiction fun z => ?_
      rw [b_npos_nat z] at he
      omega
    have h2 := b_pos_nat h0
    rw [he] at h2
    have h3 : n + 1 < 2 ^ 31 := by rw [← he]; have : e.toInt < 2 ^ 31 := Int32.toInt_lt e; unfold Int32.toNatClampNeg; omega
    unfold b_ex at kk
    subst h2
    refine bq_iload (i := 5) dX1_leastLoads_61 rfl ?_
    refine bq_if_le (tgt := 90) dX1_leastLoads_63 (by decide) (fun z9_ => absurd z9_ (fun z => absurd h0 (Int32.not_lt.mpr z))) (fun c_63 => ?_)
    refine bq_iload_n (i := 1) dX1_leastLoads_66 rfl ?_
    refine bq_aload_n (i := 0) dX1_leastLoads_67 rfl ?_
    refine bq_iload_n (i := 1) dX1_leastLoads_68 rfl ?_
    refine bq_iload (i := 4) dX1_leastLoads_69 rfl ?_
    refine bq_iconst (v := (-1 : Int32)) dX1_leastLoads_71 (by decide) ?_
    refine bq_ixor dX1_leastLoads_72 ?_
    refine bq_iand dX1_leastLoads_73 ?_
    refine bq_iload_n (i := 3) dX1_leastLoads_74 rfl ?_
    refine bq_iconst (v := (nI 1)) dX1_leastLoads_75 (by decide) ?_
    refine bq_iadd dX1_leastLoads_76 ?_
    rw [nI_add]
    refine bt_callVr (c := 1) (i := m) dX1_leastLoads_77 rfl ml_X1_80 (by first | assumption | exact J.v3 | exact J.v4 | exact J.v5 | exact J.v6 | exact J.l0 | exact J.l1 | exact J.l2 | exact J.l3 | exact J.row (by assumption) | exact J.ops (by assumption) | exact J.job (by assumption)) (by decide) (c_nl J hV hlen (by omega)) (by decide) (by decide) (Nat.le_of_ble_eq_true rfl) rfl ?_
    refine bq_iconst (v := (-1 : Int32)) dX1_leastLoads_80 (by decide) ?_
    refine bq_ixor dX1_leastLoads_81 ?_
    refine bq_iand dX1_leastLoads_82 ?_
    refine bq_istore_n (i := 1) dX1_leastLoads_83 (by decide) ?_
    refine bq_iinc dX1_leastLoads_84 rfl (by decide) (show nI (n + 1) + Int32.ofInt (-1) = nI n by rw [show Int32.ofInt (-1) = -(nI 1) from rfl, ← Int32.sub_eq_add_neg, pk_sub (by omega)]; rfl) ?_
    refine bq_goto (tgt := 61) dX1_leastLoads_87 (by decide) ?_
    refine bq_lvs (lv' := [(0, .ref (bt_ad α 1 m)), (1, .int (ins &&& (b_nl σ x m (ins &&& (need ^^^ (-1 : Int32))) (j + 1) ^^^ (-1 : Int32)))), (2, .int (p)), (3, .int (nI j)), (4, .int (need)), (5, .int (nI n))]) ⟨rfl, rfl, rfl, rfl, rfl, rfl, trivial⟩ ?_
    exact ih (nI n) _ (b_toNat_nI (by omega)) kk
set_option maxRecDepth 100000 in
set_option maxHeartbeats 400000 in
theorem c_ll_l {G : bp_X} {α : bt_A} {σ x : bt_X} {m : Nat} (J : bt_J α σ x) (hV : bt_V α 1 m) (hlen : (x.2.2 (4 + m)).length ≤ 33) {r : Int32} (os : List Nat) : ∀ (j : Nat) (ins p : Int32), j ≤ 34 → (x.2.2 (4 + m)).drop j = os → b_ll σ x m j os ins p = r →
    bq_W G mX1_leastLoads 4 6 [(0, .ref (bt_ad α 1 m)), (1, .int ins), (2, .int p), (3, .int (nI j))] [] (bt α σ x) (bq_ret (some (.int r)) (bt α σ x)) := by
  have hm := J.m4 hV
  induction os with
  | nil =>
    intro j ins p hj hd hr
    unfold b_ll at hr
    refine bq_iload_n (i := 3) dX1_leastLoads_6 rfl ?_
    refine bq_aload_n (i := 0) dX1_leastLoads_7 rfl ?_
    refine bt_get3 (c' := 7) (n := (4 + m)) dX1_leastLoads_8 fl_X1_12 (by first | assumption | exact J.v3 | exact J.v4 | exact J.v5 | exact J.v6 | exact J.l0 | exact J.l1 | exact J.l2 | exact J.l3 | exact J.row (by assumption) | exact J.ops (by assumption) | exact J.job (by assumption)) ⟨rfl, rfl, rfl⟩ (by decide) ?_
    refine bt_size dX1_leastLoads_11 ml_X1_33 (by first | assumption | exact J.v3 | exact J.v4 | exact J.v5 | exact J.v6 | exact J.l0 | exact J.l1 | exact J.l2 | exact J.l3 | exact J.row (by assumption) | exact J.ops (by assumption) | exact J.job (by assumption)) (bt_lv (bt_sl_row (by assumption))) (by decide) (Nat.le_of_ble_eq_true rfl) ?_
    refine bq_icmp_ge (tgt := 96) dX1_leastLoads_14 (by decide) (fun c_14 => ?_) (fun z9_ => absurd (show nI (x.2.2 (4 + m)).length ≤ nI j from nI_le (b_drop0 hd) (by omega)) z9_)
    refine bq_iload_n (i := 2) dX1_leastLoads_96 rfl ?_
    rw [hr]
    exact bq_iret dX1_leastLoads_97 rfl (by first | rfl | decide) bq_ret_i
  | cons o os ih =>
    intro j ins p hj hd hr
    obtain ⟨ho, hd1, hj1⟩ := b_dropc hd
    unfold b_ll at hr
    refine bq_iload_n (i := 3) dX1_leastLoads_6 rfl ?_
    refine bq_aload_n (i := 0) dX1_leastLoads_7 rfl ?_
    refine bt_get3 (c' := 7) (n := (4 + m)) dX1_leastLoads_8 fl_X1_12 (by first | assumption | exact J.v3 | exact J.v4 | exact J.v5 | exact J.v6 | exact J.l0 | exact J.l1 | exact J.l2 | exact J.l3 | exact J.row (by assumption) | exact J.ops (by assumption) | exact J.job (by assumption)) ⟨rfl, rfl, rfl⟩ (by decide) ?_
    refine bt_size dX1_leastLoads_11 ml_X1_33 (by first | assumption | exact J.v3 | exact J.v4 | exact J.v5 | exact J.v6 | exact J.l0 | exact J.l1 | exact J.l2 | exact J.l3 | exact J.row (by assumption) | exact J.ops (by assumption) | exact J.job (by assumption)) (bt_lv (bt_sl_row (by assumption))) (by decide) (Nat.le_of_ble_eq_true rfl) ?_
    refine bq_icmp_ge (tgt := 96) dX1_leastLoads_14 (by decide) (fun z9_ => absurd z9_ (show ¬ nI (x.2.2 (4 + m)).length ≤ nI j from nI_ge hj1 (by omega))) (fun c_14 => ?_)
    refine bq_aload_n (i := 0) dX1_leastLoads_17 rfl ?_
    refine bt_get3 (c' := 7) (n := (4 + m)) dX1_leastLoads_18 fl_X1_12 (by first | assumption | exact J.v3 | exact J.v4 | exact J.v5 | exact J.v6 | exact J.l0 | exact J.l1 | exact J.l2 | exact J.l3 | exact J.row (by assumption) | exact J.ops (by assumption) | exact J.job (by assumption)) ⟨rfl, rfl, rfl⟩ (by decide) ?_
    refine bq_iload_n (i := 3) dX1_leastLoads_21 rfl ?_
    refine bt_geti (j := j) (y := o) (c' := 2) dX1_leastLoads_22 ml_X1_37 (by first | assumption | exact J.v3 | exact J.v4 | exact J.v5 | exact J.v6 | exact J.l0 | exact J.l1 | exact J.l2 | exact J.l3 | exact J.row (by assumption) | exact J.ops (by assumption) | exact J.job (by assumption)) (bt_lv (bt_sl_row (by assumption))) rfl ho bt_lc_row (by decide) (Nat.le_of_ble_eq_true rfl) (fun v_22 => ?_)
    refine bt_cast (c := 2) dX1_leastLoads_25 rfl cl_X1_40 (by first | assumption | exact J.v3 | exact J.v4 | exact J.v5 | exact J.v6 | exact J.l0 | exact J.l1 | exact J.l2 | exact J.l3 | exact J.row (by assumption) | exact J.ops (by assumption) | exact J.job (by assumption)) (by decide) ?_
    refine bt_get4 dX1_leastLoads_28 fl_X1_71 (by first | assumption | exact J.v3 | exact J.v4 | exact J.v5 | exact J.v6 | exact J.l0 | exact J.l1 | exact J.l2 | exact J.l3 | exact J.row (by assumption) | exact J.ops (by assumption) | exact J.job (by assumption)) rfl (by decide) ?_
    refine bq_istore (i := 4) dX1_leastLoads_31 (by decide) ?_
    refine bq_iload_n (i := 2) dX1_leastLoads_33 rfl ?_
    refine bq_iload (i := 4) dX1_leastLoads_34 rfl ?_
    refine bq_iload_n (i := 1) dX1_leastLoads_36 rfl ?_
    refine bq_iconst (v := (-1 : Int32)) dX1_leastLoads_37 (by decide) ?_
    refine bq_ixor dX1_leastLoads_38 ?_
    refine bq_iand dX1_leastLoads_39 ?_
    refine bq_callSr dX1_leastLoads_40 ml_X1_74 (c_bc) (by decide) (by decide) (Nat.le_of_ble_eq_true rfl) rfl ?_
    refine bq_iadd dX1_leastLoads_43 ?_
    refine bq_istore_n (i := 2) dX1_leastLoads_44 (by decide) ?_
    refine bq_iload_n (i := 1) dX1_leastLoads_45 rfl ?_
    refine bq_iload (i := 4) dX1_leastLoads_46 rfl ?_
    refine bq_ior dX1_leastLoads_48 ?_
    refine bq_istore_n (i := 1) dX1_leastLoads_49 (by decide) ?_
    refine bq_iload_n (i := 1) dX1_leastLoads_50 rfl ?_
    refine bq_callSr dX1_leastLoads_51 ml_X1_74 (c_bc) (by decide) (by decide) (Nat.le_of_ble_eq_true rfl) rfl ?_
    refine bq_aload_n (i := 0) dX1_leastLoads_54 rfl ?_
    refine bt_get4 dX1_leastLoads_55 fl_X1_18 (by first | assumption | exact J.v3 | exact J.v4 | exact J.v5 | exact J.v6 | exact J.l0 | exact J.l1 | exact J.l2 | exact J.l3 | exact J.row (by assumption) | exact J.ops (by assumption) | exact J.job (by assumption)) rfl (by decide) ?_
    refine bq_isub dX1_leastLoads_58 ?_
    refine bq_istore (i := 5) dX1_leastLoads_59 (by decide) ?_
    refine bq_lvs (lv' := [(0, .ref (bt_ad α 1 m)), (1, .int (ins ||| σ.1 2 o 5)), (2, .int (p + b_bc (σ.1 2 o 5 &&& (ins ^^^ (-1 : Int32))))), (3, .int (nI j)), (4, .int (σ.1 2 o 5)), (5, .int (b_bc (ins ||| σ.1 2 o 5) - σ.1 1 m 1))]) ⟨rfl, rfl, rfl, rfl, rfl, rfl, trivial⟩ ?_
    refine c_ex_l J hV hlen (by omega) _ _ _ rfl ?_
    refine bq_iinc dX1_leastLoads_90 rfl (by decide) (bp_inc _) ?_
    refine bq_goto (tgt := 6) dX1_leastLoads_93 (by decide) ?_
    refine bq_lvs (lv' := [(0, .ref (bt_ad α 1 m)), (1, .int _), (2, .int _), (3, .int (nI (j + 1)))]) ⟨rfl, rfl, rfl, rfl, trivial⟩ ?_
    exact ih (j + 1) _ _ (by omega) hd1 hr
set_option maxRecDepth 100000 in
set_option maxHeartbeats 400000 in
theorem c_loads {G : bp_X} {α : bt_A} {σ x : bt_X} {m : Nat} (J : bt_J α σ x) (hV : bt_V α 1 m) (hlen : (x.2.2 (4 + m)).length ≤ 33) : bq_S G mX1_leastLoads 4 [.ref (bt_ad α 1 m)] (bt α σ x) (bq_ret (some (.int (b_loads σ x m))) (bt α σ x)) := by
  refine bq_ofW (by decide +kernel) rfl (Nat.le_of_ble_eq_true rfl) ?_
  refine bq_iconst (v := (nI 0)) dX1_leastLoads_0 (by decide) ?_
  refine bq_istore_n (i := 1) dX1_leastLoads_1 (by decide) ?_
  refine bq_iconst (v := (nI 0)) dX1_leastLoads_2 (by decide) ?_
  refine bq_istore_n (i := 2) dX1_leastLoads_3 (by decide) ?_
  refine bq_iconst (v := (nI 0)) dX1_leastLoads_4 (by decide) ?_
  refine bq_istore_n (i := 3) dX1_leastLoads_5 (by decide) ?_
  refine bq_lvs (lv' := [(0, .ref (bt_ad α 1 m)), (1, .int (nI 0)), (2, .int (nI 0)), (3, .int (nI 0))]) ⟨rfl, rfl, rfl, rfl, trivial⟩ ?_
  exact c_ll_l J hV hlen _ 0 _ _ (by omega) rfl rfl

