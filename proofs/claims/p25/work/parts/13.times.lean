/-! ===== set-ups, times ===== -/
def b_code (σ : bt_X) (o : Nat) : Int32 := nI 10 * σ.1 0 (o / 4) 0 + σ.1 2 o 1
/-- the set-up ahead of an operation -/
def b_bet (σ : bt_X) (a : Option Nat) (o : Nat) : Int32 := match a with
  | none => σ.1 8 (1 + 0) (b_fn σ o)
  | some a => σ.1 8 (1 + b_fn σ a) (b_fn σ o)
theorem bt_t_min {f k : Nat} (hf : f < 4) : bt_t 8 (1 + f) k = 4 := by
  unfold bt_t
  simp only []
  rw [if_neg (by omega), if_neg (by omega), if_pos (by omega)]
set_option maxRecDepth 100000 in
set_option maxHeartbeats 400000 in
theorem c_code {G : bp_X} {α : bt_A} {σ x : bt_X} {i : Nat} (J : bt_J α σ x) (hO : bt_V α 2 i) : bq_S G mX2_code 0 [.ref (bt_ad α 2 i)] (bt α σ x) (bq_ret (some (.int (b_code σ i))) (bt α σ x)) := by
  refine bq_ofW (by decide +kernel) rfl (Nat.le_of_ble_eq_true rfl) ?_
  refine bq_bipush (v := (nI 10)) dX2_code_0 (by decide) ?_
  refine bq_aload_n (i := 0) dX2_code_2 rfl ?_
  refine bt_get3 (c' := 0) (n := (i / 4)) dX2_code_3 fl_X2_7 (by first | assumption | exact J.v3 | exact J.v4 | exact J.v5 | exact J.v6 | exact J.l0 | exact J.l1 | exact J.l2 | exact J.l3 | exact J.row (by assumption) | exact J.ops (by assumption) | exact J.job (by assumption)) ⟨rfl, rfl, rfl⟩ (by decide) ?_
  refine bt_get4 dX2_code_6 fl_X2_30 (by first | assumption | exact J.v3 | exact J.v4 | exact J.v5 | exact J.v6 | exact J.l0 | exact J.l1 | exact J.l2 | exact J.l3 | exact J.row (by assumption) | exact J.ops (by assumption) | exact J.job (by assumption)) rfl (by decide) ?_
  refine bq_imul dX2_code_9 ?_
  refine bq_aload_n (i := 0) dX2_code_10 rfl ?_
  refine bt_get4 dX2_code_11 fl_X2_13 (by first | assumption | exact J.v3 | exact J.v4 | exact J.v5 | exact J.v6 | exact J.l0 | exact J.l1 | exact J.l2 | exact J.l3 | exact J.row (by assumption) | exact J.ops (by assumption) | exact J.job (by assumption)) rfl (by decide) ?_
  refine bq_iadd dX2_code_14 ?_
  exact bq_iret dX2_code_15 rfl (by first | rfl | decide) bq_ret_i
set_option maxRecDepth 100000 in
set_option maxHeartbeats 400000 in
theorem c_betN {G : bp_X} {α : bt_A} {σ x : bt_X} {i : Nat} (J : bt_J α σ x) (hO : bt_V α 2 i) : bq_S G mX3_between 0 [.ref (bt_ad α 3 0), .null, .ref (bt_ad α 2 i)] (bt α σ x) (bq_ret (some (.int (b_bet σ none i))) (bt α σ x)) := by
  obtain ⟨f1, f2⟩ := J.fam hO
  refine bq_ofW (by decide +kernel) rfl (Nat.le_of_ble_eq_true rfl) ?_
  refine bq_aload_nN (i := 1) dX3_between_0 rfl ?_
  refine bq_ifnonnullN dX3_between_1 ?_
  refine bq_iconst (v := (nI 0)) dX3_between_4 (by decide) ?_
  refine bq_goto (tgt := 12) dX3_between_5 (by decide) ?_
  refine bq_istore_n (i := 3) dX3_between_12 (by decide) ?_
  refine bq_aload_n (i := 0) dX3_between_13 rfl ?_
  refine bt_get3 (c' := 8) (n := 0) dX3_between_14 fl_X3_11 (by first | assumption | exact J.v3 | exact J.v4 | exact J.v5 | exact J.v6 | exact J.l0 | exact J.l1 | exact J.l2 | exact J.l3 | exact J.row (by assumption) | exact J.ops (by assumption) | exact J.job (by assumption)) ⟨rfl, rfl, rfl⟩ (by decide) ?_
  refine bq_iload_n (i := 3) dX3_between_17 rfl ?_
  refine bt_aald3 (n := 0) (j := 0) (m := 1 + 0) dX3_between_18 J.a0 rfl (by decide) (by decide) ⟨rfl, rfl⟩ ?_
  refine bq_aload_n (i := 2) dX3_between_19 rfl ?_
  refine bt_get4 dX3_between_20 fl_X3_16 (by first | assumption | exact J.v3 | exact J.v4 | exact J.v5 | exact J.v6 | exact J.l0 | exact J.l1 | exact J.l2 | exact J.l3 | exact J.row (by assumption) | exact J.ops (by assumption) | exact J.job (by assumption)) rfl (by decide) ?_
  refine bt_iald4 (n := (1 + 0)) (j := b_fn σ i) dX3_between_23 (J.am (by decide)) f1 (by exact f2) (by decide) rfl ?_
  exact bq_iret dX3_between_24 rfl (by first | rfl | decide) bq_ret_i
set_option maxRecDepth 100000 in
set_option maxHeartbeats 400000 in
theorem c_betS {G : bp_X} {α : bt_A} {σ x : bt_X} {i a : Nat} (J : bt_J α σ x) (hO : bt_V α 2 i) (hA : bt_V α 2 a) : bq_S G mX3_between 0 [.ref (bt_ad α 3 0), .ref (bt_ad α 2 a), .ref (bt_ad α 2 i)] (bt α σ x) (bq_ret (some (.int (b_bet σ (some a) i))) (bt α σ x)) := by
  obtain ⟨f1, f2⟩ := J.fam hO
  obtain ⟨g1, g2⟩ := J.fam hA
  refine bq_ofW (by decide +kernel) rfl (Nat.le_of_ble_eq_true rfl) ?_
  refine bq_aload_n (i := 1) dX3_between_0 rfl ?_
  refine bq_ifnonnull (tgt := 8) dX3_between_1 (by decide) ?_
  refine bq_aload_n (i := 1) dX3_between_8 rfl ?_
  refine bt_get4 dX3_between_9 fl_X3_16 (by first | assumption | exact J.v3 | exact J.v4 | exact J.v5 | exact J.v6 | exact J.l0 | exact J.l1 | exact J.l2 | exact J.l3 | exact J.row (by assumption) | exact J.ops (by assumption) | exact J.job (by assumption)) rfl (by decide) ?_
  refine bq_istore_n (i := 3) dX3_between_12 (by decide) ?_
  refine bq_aload_n (i := 0) dX3_between_13 rfl ?_
  refine bt_get3 (c' := 8) (n := 0) dX3_between_14 fl_X3_11 (by first | assumption | exact J.v3 | exact J.v4 | exact J.v5 | exact J.v6 | exact J.l0 | exact J.l1 | exact J.l2 | exact J.l3 | exact J.row (by assumption) | exact J.ops (by assumption) | exact J.job (by assumption)) ⟨rfl, rfl, rfl⟩ (by decide) ?_
  refine bq_iload_n (i := 3) dX3_between_17 rfl ?_
  refine bt_aald3 (n := 0) (j := b_fn σ a) (m := 1 + b_fn σ a) dX3_between_18 J.a0 g1 (by exact g2) (by decide) ⟨rfl, rfl⟩ ?_
  refine bq_aload_n (i := 2) dX3_between_19 rfl ?_
  refine bt_get4 dX3_between_20 fl_X3_16 (by first | assumption | exact J.v3 | exact J.v4 | exact J.v5 | exact J.v6 | exact J.l0 | exact J.l1 | exact J.l2 | exact J.l3 | exact J.row (by assumption) | exact J.ops (by assumption) | exact J.job (by assumption)) rfl (by decide) ?_
  refine bt_iald4 (n := (1 + b_fn σ a)) (j := b_fn σ i) dX3_between_23 (J.am g2) f1 (by exact f2) (by decide) (bt_t_min g2) ?_
  exact bq_iret dX3_between_24 rfl (by first | rfl | decide) bq_ret_i
def b_sum (σ x : bt_X) : List Nat → Int32 → Int32
  | [], s => s
  | i :: os, s => b_sum σ x os (s + b_bet σ (x.2.1 2 i 8) i)
set_option maxRecDepth 100000 in
set_option maxHeartbeats 400000 in
theorem c_sum_l {G : bp_X} {α : bt_A} {σ x : bt_X} {m : Nat} (J : bt_J α σ x) (hV : bt_V α 1 m) (hlen : (x.2.2 (4 + m)).length ≤ 33) {r : Int32} (os : List Nat) : ∀ (j : Nat) (s : Int32), j ≤ 34 → (x.2.2 (4 + m)).drop j = os → b_sum σ x os s = r →
    bq_W G mX3_sumOf 3 4 [(0, .ref (bt_ad α 3 0)), (1, .ref (bt_ad α 1 m)), (2, .int s), (3, .int (nI j))] [] (bt α σ x) (bq_ret (some (.int r)) (bt α σ x)) := by
  have hm := J.m4 hV
  induction os with
  | nil =>
    intro j s hj hd hr
    unfold b_sum at hr
    refine bq_iload_n (i := 3) dX3_sumOf_4 rfl ?_
    refine bq_aload_n (i := 1) dX3_sumOf_5 rfl ?_
    refine bt_get3 (c' := 7) (n := (4 + m)) dX3_sumOf_6 fl_X3_22 (by first | assumption | exact J.v3 | exact J.v4 | exact J.v5 | exact J.v6 | exact J.l0 | exact J.l1 | exact J.l2 | exact J.l3 | exact J.row (by assumption) | exact J.ops (by assumption) | exact J.job (by assumption)) ⟨rfl, rfl, rfl⟩ (by decide) ?_
    refine bt_size dX3_sumOf_9 ml_X3_28 (by first | assumption | exact J.v3 | exact J.v4 | exact J.v5 | exact J.v6 | exact J.l0 | exact J.l1 | exact J.l2 | exact J.l3 | exact J.row (by assumption) | exact J.ops (by assumption) | exact J.job (by assumption)) (bt_lv (bt_sl_row (by assumption))) (by decide) (Nat.le_of_ble_eq_true rfl) ?_
    refine bq_icmp_ge (tgt := 48) dX3_sumOf_12 (by decide) (fun c_12 => ?_) (fun z9_ => absurd (show nI (x.2.2 (4 + m)).length ≤ nI j from nI_le (b_drop0 hd) (by omega)) z9_)
    refine bq_iload_n (i := 2) dX3_sumOf_48 rfl ?_
    rw [hr]
    exact bq_iret dX3_sumOf_49 rfl (by first | rfl | decide) bq_ret_i
  | cons i os ih =>
    intro j s hj hd hr
    obtain ⟨ho, hd1, hj1⟩ := b_dropc hd
    unfold b_sum at hr
    refine bq_iload_n (i := 3) dX3_sumOf_4 rfl ?_
    refine bq_aload_n (i := 1) dX3_sumOf_5 rfl ?_
    refine bt_get3 (c' := 7) (n := (4 + m)) dX3_sumOf_6 fl_X3_22 (by first | assumption | exact J.v3 | exact J.v4 | exact J.v5 | exact J.v6 | exact J.l0 | exact J.l1 | exact J.l2 | exact J.l3 | exact J.row (by assumption) | exact J.ops (by assumption) | exact J.job (by assumption)) ⟨rfl, rfl, rfl⟩ (by decide) ?_
    refine bt_size dX3_sumOf_9 ml_X3_28 (by first | assumption | exact J.v3 | exact J.v4 | exact J.v5 | exact J.v6 | exact J.l0 | exact J.l1 | exact J.l2 | exact J.l3 | exact J.row (by assumption) | exact J.ops (by assumption) | exact J.job (by assumption)) (bt_lv (bt_sl_row (by assumption))) (by decide) (Nat.le_of_ble_eq_true rfl) ?_
    refine bq_icmp_ge (tgt := 48) dX3_sumOf_12 (by decide) (fun z9_ => absurd z9_ (show ¬ nI (x.2.2 (4 + m)).length ≤ nI j from nI_ge hj1 (by omega))) (fun c_12 => ?_)
    refine bq_aload_n (i := 1) dX3_sumOf_15 rfl ?_
    refine bt_get3 (c' := 7) (n := (4 + m)) dX3_sumOf_16 fl_X3_22 (by first | assumption | exact J.v3 | exact J.v4 | exact J.v5 | exact J.v6 | exact J.l0 | exact J.l1 | exact J.l2 | exact J.l3 | exact J.row (by assumption) | exact J.ops (by assumption) | exact J.job (by assumption)) ⟨rfl, rfl, rfl⟩ (by decide) ?_
    refine bq_iload_n (i := 3) dX3_sumOf_19 rfl ?_
    refine bt_geti (j := j) (y := i) (c' := 2) dX3_sumOf_20 ml_X3_34 (by first | assumption | exact J.v3 | exact J.v4 | exact J.v5 | exact J.v6 | exact J.l0 | exact J.l1 | exact J.l2 | exact J.l3 | exact J.row (by assumption) | exact J.ops (by assumption) | exact J.job (by assumption)) (bt_lv (bt_sl_row (by assumption))) rfl ho bt_lc_row (by decide) (Nat.le_of_ble_eq_true rfl) (fun v_20 => ?_)
    refine bt_cast (c := 2) dX3_sumOf_23 rfl cl_X3_17 (by first | assumption | exact J.v3 | exact J.v4 | exact J.v5 | exact J.v6 | exact J.l0 | exact J.l1 | exact J.l2 | exact J.l3 | exact J.row (by assumption) | exact J.ops (by assumption) | exact J.job (by assumption)) (by decide) ?_
    refine bq_astore (i := 4) dX3_sumOf_26 (by decide) ?_
    refine bq_iload_n (i := 2) dX3_sumOf_28 rfl ?_
    refine bq_aload_n (i := 0) dX3_sumOf_29 rfl ?_
    refine bq_aload (i := 4) dX3_sumOf_30 rfl ?_
    refine bt_get2 (c' := 2) dX3_sumOf_32 fl_X3_38 (by first | assumption | exact J.v3 | exact J.v4 | exact J.v5 | exact J.v6 | exact J.l0 | exact J.l1 | exact J.l2 | exact J.l3 | exact J.row (by assumption) | exact J.ops (by assumption) | exact J.job (by assumption)) ⟨rfl, rfl⟩ (by decide) (fun r_32 => ?_) (fun a_32 r_32 => ?_)
    · rw [r_32] at hr
      refine bq_aload (i := 4) dX3_sumOf_35 rfl ?_
      refine bt_callVr (c := 3) (i := 0) dX3_sumOf_37 rfl ml_X3_42 (by first | assumption | exact J.v3 | exact J.v4 | exact J.v5 | exact J.v6 | exact J.l0 | exact J.l1 | exact J.l2 | exact J.l3 | exact J.row (by assumption) | exact J.ops (by assumption) | exact J.job (by assumption)) (by decide) (c_betN (i := i) J (by assumption)) (by decide) (by decide) (Nat.le_of_ble_eq_true rfl) rfl ?_
      refine bq_iadd dX3_sumOf_40 ?_
      refine bq_istore_n (i := 2) dX3_sumOf_41 (by decide) ?_
      refine bq_iinc dX3_sumOf_42 rfl (by decide) (by first | exact bp_inc _ | rfl) ?_
      refine bq_goto (tgt := 4) dX3_sumOf_45 (by decide) ?_
      refine bq_lvs (lv' := [(0, .ref (bt_ad α 3 0)), (1, .ref (bt_ad α 1 m)), (2, .int _), (3, .int (nI (j + 1)))]) ⟨rfl, rfl, rfl, rfl, trivial⟩ ?_
      exact ih (j + 1) _ (by omega) hd1 hr
    · have v_32 := J.lnk8 (by first | assumption | exact J.v3 | exact J.v4 | exact J.v5 | exact J.v6 | exact J.l0 | exact J.l1 | exact J.l2 | exact J.l3 | exact J.row (by assumption) | exact J.ops (by assumption) | exact J.job (by assumption)) r_32
      rw [r_32] at hr
      refine bq_aload (i := 4) dX3_sumOf_35 rfl ?_
      refine bt_callVr (c := 3) (i := 0) dX3_sumOf_37 rfl ml_X3_42 (by first | assumption | exact J.v3 | exact J.v4 | exact J.v5 | exact J.v6 | exact J.l0 | exact J.l1 | exact J.l2 | exact J.l3 | exact J.row (by assumption) | exact J.ops (by assumption) | exact J.job (by assumption)) (by decide) (c_betS (i := i) (a := a_32) J (by assumption) (by assumption)) (by decide) (by decide) (Nat.le_of_ble_eq_true rfl) rfl ?_
      refine bq_iadd dX3_sumOf_40 ?_
      refine bq_istore_n (i := 2) dX3_sumOf_41 (by decide) ?_
      refine bq_iinc dX3_sumOf_42 rfl (by decide) (by first | exact bp_inc _ | rfl) ?_
      refine bq_goto (tgt := 4) dX3_sumOf_45 (by decide) ?_
      refine bq_lvs (lv' := [(0, .ref (bt_ad α 3 0)), (1, .ref (bt_ad α 1 m)), (2, .int _), (3, .int (nI (j + 1)))]) ⟨rfl, rfl, rfl, rfl, trivial⟩ ?_
      exact ih (j + 1) _ (by omega) hd1 hr
set_option maxRecDepth 100000 in
set_option maxHeartbeats 400000 in
theorem c_sum {G : bp_X} {α : bt_A} {σ x : bt_X} {m : Nat} (J : bt_J α σ x) (hV : bt_V α 1 m) (hlen : (x.2.2 (4 + m)).length ≤ 33) : bq_S G mX3_sumOf 3 [.ref (bt_ad α 3 0), .ref (bt_ad α 1 m)] (bt α σ x) (bq_ret (some (.int (b_sum σ x (x.2.2 (4 + m)) (nI 0)))) (bt α σ x)) := by
  refine bq_ofW (by decide +kernel) rfl (Nat.le_of_ble_eq_true rfl) ?_
  refine bq_iconst (v := (nI 0)) dX3_sumOf_0 (by decide) ?_
  refine bq_istore_n (i := 2) dX3_sumOf_1 (by decide) ?_
  refine bq_iconst (v := (nI 0)) dX3_sumOf_2 (by decide) ?_
  refine bq_istore_n (i := 3) dX3_sumOf_3 (by decide) ?_
  refine bq_lvs (lv' := [(0, .ref (bt_ad α 3 0)), (1, .ref (bt_ad α 1 m)), (2, .int (nI 0)), (3, .int (nI 0))]) ⟨rfl, rfl, rfl, rfl, trivial⟩ ?_
  exact c_sum_l J hV hlen _ 0 _ (by omega) rfl rfl
def b_m (σ : bt_X) (i : Nat) : Nat := (σ.2.1 2 i 2).getD 0
def b_free (x : bt_X) (a : Option Nat) : Int32 := match a with
  | none => nI 0
  | some a => x.1 2 a 11
def b_mx (f : Int32) (g : Option Int32) : Int32 := match g with
  | none => f
  | some y => if f < y then y else f
def b_rdy (σ x : bt_X) (i : Nat) : Int32 := b_mx (b_free x (x.2.1 2 i 8) + b_bet σ (x.2.1 2 i 8) i) ((σ.2.1 2 i 6).map fun a => x.1 2 a 11)
def b_max (x y : Int32) : Int32 := if x < y then y else x
def b_put1 (σ x : bt_X) (i : Nat) (s : Int32) : bt_X := bt_gs x 2 i 10 s
def b_put2 (σ x : bt_X) (i : Nat) : bt_X := bt_gs x 2 i 11 (x.1 2 i 10 + σ.1 2 i 3)
def b_put3 (x : bt_X) (i : Nat) : bt_X := bt_gs x 4 0 5 (b_max (x.1 4 0 5) (x.1 2 i 11))
def b_put4 (x : bt_X) (i : Nat) : bt_X := bt_lp x 2 (x.2.2 2 ++ [i])
def b_one (σ x : bt_X) (i : Nat) : bt_X := b_put4 (b_put3 (b_put2 σ (b_put1 σ x i (b_ls σ (b_m σ i) (b_rdy σ x i) (σ.1 2 i 3))) i) i) i
theorem b_m_of {σ : bt_X} {i m : Nat} (h : σ.2.1 2 i 2 = some m) : b_m σ i = m := by unfold b_m; rw [h]; rfl
set_option maxRecDepth 100000 in
set_option maxHeartbeats 400000 in
theorem c_one {G : bp_X} {α : bt_A} {σ x : bt_X} {i : Nat} (J : bt_J α σ x) (hO : bt_V α 2 i) (hlen : (x.2.2 2).length < 33) : bq_S G mX4_timeOne 7 [.ref (bt_ad α 4 0), .ref (bt_ad α 2 i)] (bt α σ x) (bq_ret none (bt α σ (b_one σ x i))) := by
  obtain ⟨m, hm, hVm⟩ := J.mach hO
  refine bq_ofW (by decide +kernel) rfl (Nat.le_of_ble_eq_true rfl) ?_
  refine bq_aload_n (i := 1) dX4_timeOne_0 rfl ?_
  refine bt_get5 (c' := 2) dX4_timeOne_1 fl_X4_100 (by first | assumption | exact J.v3 | exact J.v4 | exact J.v5 | exact J.v6 | exact J.l0 | exact J.l1 | exact J.l2 | exact J.l3 | exact J.row (by assumption) | exact J.ops (by assumption) | exact J.job (by assumption)) ⟨rfl, rfl⟩ (by decide) (fun r_1 => ?_) (fun a_1 r_1 => ?_)
  · refine bq_astore_nN (i := 2) dX4_timeOne_4 (by decide) ?_
    refine bq_aload_n (i := 1) dX4_timeOne_5 rfl ?_
    refine bt_get2 (c' := 2) dX4_timeOne_6 fl_X4_104 (by first | assumption | exact J.v3 | exact J.v4 | exact J.v5 | exact J.v6 | exact J.l0 | exact J.l1 | exact J.l2 | exact J.l3 | exact J.row (by assumption) | exact J.ops (by assumption) | exact J.job (by assumption)) ⟨rfl, rfl⟩ (by decide) (fun r_6 => ?_) (fun a_6 r_6 => ?_)
    · refine bq_astore_nN (i := 3) dX4_timeOne_9 (by decide) ?_
      refine bq_aload_nN (i := 3) dX4_timeOne_10 rfl ?_
      refine bq_ifnonnullN dX4_timeOne_11 ?_
      refine bq_iconst (v := (nI 0)) dX4_timeOne_14 (by decide) ?_
      refine bq_goto (tgt := 22) dX4_timeOne_15 (by decide) ?_
      refine bq_istore (i := 4) dX4_timeOne_22 (by decide) ?_
      refine bq_iload (i := 4) dX4_timeOne_24 rfl ?_
      refine bq_aload_n (i := 0) dX4_timeOne_26 rfl ?_
      refine bt_get3 (c' := 3) (n := 0) dX4_timeOne_27 fl_X4_24 (by first | assumption | exact J.v3 | exact J.v4 | exact J.v5 | exact J.v6 | exact J.l0 | exact J.l1 | exact J.l2 | exact J.l3 | exact J.row (by assumption) | exact J.ops (by assumption) | exact J.job (by assumption)) ⟨rfl, rfl, rfl⟩ (by decide) ?_
      refine bq_aload_nN (i := 3) dX4_timeOne_30 rfl ?_
      refine bq_aload_n (i := 1) dX4_timeOne_31 rfl ?_
      refine bt_callVr (c := 3) (i := 0) dX4_timeOne_32 rfl ml_X4_110 (by first | assumption | exact J.v3 | exact J.v4 | exact J.v5 | exact J.v6 | exact J.l0 | exact J.l1 | exact J.l2 | exact J.l3 | exact J.row (by assumption) | exact J.ops (by assumption) | exact J.job (by assumption)) (by decide) (c_betN (i := i) J (by assumption)) (by decide) (by decide) (Nat.le_of_ble_eq_true rfl) rfl ?_
      refine bq_iadd dX4_timeOne_35 ?_
      refine bq_istore (i := 5) dX4_timeOne_36 (by decide) ?_
      refine bq_aload_nN (i := 2) dX4_timeOne_38 rfl ?_
      refine bq_ifnullN (tgt := 53) dX4_timeOne_39 (by decide) ?_
      refine bq_aload_n (i := 1) dX4_timeOne_53 rfl ?_
      refine bq_aload_n (i := 1) dX4_timeOne_54 rfl ?_
      refine bt_get5s (c' := 1) (a := m) dX4_timeOne_55 fl_X4_34 (by first | assumption | exact J.v3 | exact J.v4 | exact J.v5 | exact J.v6 | exact J.l0 | exact J.l1 | exact J.l2 | exact J.l3 | exact J.row (by assumption) | exact J.ops (by assumption) | exact J.job (by assumption)) ⟨rfl, rfl⟩ (by decide) hm ?_
      refine bq_iload (i := 5) dX4_timeOne_58 rfl ?_
      refine bq_aload_n (i := 1) dX4_timeOne_60 rfl ?_
      refine bt_get4 dX4_timeOne_61 fl_X4_120 (by first | assumption | exact J.v3 | exact J.v4 | exact J.v5 | exact J.v6 | exact J.l0 | exact J.l1 | exact J.l2 | exact J.l3 | exact J.row (by assumption) | exact J.ops (by assumption) | exact J.job (by assumption)) rfl (by decide) ?_
      refine bt_callVr (c := 1) (i := m) dX4_timeOne_64 rfl ml_X4_123 (by first | assumption | exact J.v3 | exact J.v4 | exact J.v5 | exact J.v6 | exact J.l0 | exact J.l1 | exact J.l2 | exact J.l3 | exact J.row (by assumption) | exact J.ops (by assumption) | exact J.job (by assumption)) (by decide) (c_ls hVm) (by decide) (by decide) (Nat.le_of_ble_eq_true rfl) rfl ?_
      refine bt_put0 dX4_timeOne_67 fl_X4_62 (by first | assumption | exact J.v3 | exact J.v4 | exact J.v5 | exact J.v6 | exact J.l0 | exact J.l1 | exact J.l2 | exact J.l3 | exact J.row (by assumption) | exact J.ops (by assumption) | exact J.job (by assumption)) rfl (by decide) (by first | rfl | decide) (by first | rfl | decide) ?_
      refine bq_aload_n (i := 1) dX4_timeOne_70 rfl ?_
      refine bq_aload_n (i := 1) dX4_timeOne_71 rfl ?_
      refine bt_get0 dX4_timeOne_72 fl_X4_62 (by first | assumption | exact J.v3 | exact J.v4 | exact J.v5 | exact J.v6 | exact J.l0 | exact J.l1 | exact J.l2 | exact J.l3 | exact J.row (by assumption) | exact J.ops (by assumption) | exact J.job (by assumption)) rfl (by decide) ?_
      refine bq_aload_n (i := 1) dX4_timeOne_75 rfl ?_
      refine bt_get4 dX4_timeOne_76 fl_X4_120 (by first | assumption | exact J.v3 | exact J.v4 | exact J.v5 | exact J.v6 | exact J.l0 | exact J.l1 | exact J.l2 | exact J.l3 | exact J.row (by assumption) | exact J.ops (by assumption) | exact J.job (by assumption)) rfl (by decide) ?_
      refine bq_iadd dX4_timeOne_79 ?_
      refine bt_put0 dX4_timeOne_80 fl_X4_107 (by first | assumption | exact J.v3 | exact J.v4 | exact J.v5 | exact J.v6 | exact J.l0 | exact J.l1 | exact J.l2 | exact J.l3 | exact J.row (by assumption) | exact J.ops (by assumption) | exact J.job (by assumption)) rfl (by decide) (by first | rfl | decide) (by first | rfl | decide) ?_
      refine bq_aload_n (i := 0) dX4_timeOne_83 rfl ?_
      refine bq_aload_n (i := 0) dX4_timeOne_84 rfl ?_
      refine bt_get0 dX4_timeOne_85 fl_X4_58 (by first | assumption | exact J.v3 | exact J.v4 | exact J.v5 | exact J.v6 | exact J.l0 | exact J.l1 | exact J.l2 | exact J.l3 | exact J.row (by assumption) | exact J.ops (by assumption) | exact J.job (by assumption)) rfl (by decide) ?_
      refine bq_aload_n (i := 1) dX4_timeOne_88 rfl ?_
      refine bt_get0 dX4_timeOne_89 fl_X4_107 (by first | assumption | exact J.v3 | exact J.v4 | exact J.v5 | exact J.v6 | exact J.l0 | exact J.l1 | exact J.l2 | exact J.l3 | exact J.row (by assumption) | exact J.ops (by assumption) | exact J.job (by assumption)) rfl (by decide) ?_
      refine bq_mmax dX4_timeOne_92 ⟨ml_X4_114, mw_max⟩ (by decide) (Nat.le_of_ble_eq_true rfl) ?_
      refine bt_put0 dX4_timeOne_95 fl_X4_58 (by first | assumption | exact J.v3 | exact J.v4 | exact J.v5 | exact J.v6 | exact J.l0 | exact J.l1 | exact J.l2 | exact J.l3 | exact J.row (by assumption) | exact J.ops (by assumption) | exact J.job (by assumption)) rfl (by decide) (by first | rfl | decide) (by first | rfl | decide) ?_
      refine bq_aload_n (i := 0) dX4_timeOne_98 rfl ?_
      refine bt_get3 (c' := 7) (n := 2) dX4_timeOne_99 fl_X4_28 (by first | assumption | exact J.v3 | exact J.v4 | exact J.v5 | exact J.v6 | exact J.l0 | exact J.l1 | exact J.l2 | exact J.l3 | exact J.row (by assumption) | exact J.ops (by assumption) | exact J.job (by assumption)) ⟨rfl, rfl, rfl⟩ (by decide) ?_
      refine bq_aload_n (i := 1) dX4_timeOne_102 rfl ?_
      refine bt_add (c := 2) dX4_timeOne_103 ml_X4_126 (by first | assumption | exact J.v3 | exact J.v4 | exact J.v5 | exact J.v6 | exact J.l0 | exact J.l1 | exact J.l2 | exact J.l3 | exact J.row (by assumption) | exact J.ops (by assumption) | exact J.job (by assumption)) rfl (by first | rfl | exact rfl.symm) (by first | assumption | exact J.v3 | exact J.v4 | exact J.v5 | exact J.v6 | exact J.l0 | exact J.l1 | exact J.l2 | exact J.l3 | exact J.row (by assumption) | exact J.ops (by assumption) | exact J.job (by assumption)) (by exact hlen) (by decide) (Nat.le_of_ble_eq_true rfl) ?_
      refine bq_pop dX4_timeOne_106 rfl ?_
      have e1 := b_m_of hm
      exact bq_vret dX4_timeOne_107 rfl (by unfold b_one b_rdy; rw [e1, r_1, r_6]; exact bq_ret_i)
    · have v_6 := J.lnk8 (by first | assumption | exact J.v3 | exact J.v4 | exact J.v5 | exact J.v6 | exact J.l0 | exact J.l1 | exact J.l2 | exact J.l3 | exact J.row (by assumption) | exact J.ops (by assumption) | exact J.job (by assumption)) r_6
      refine bq_astore_n (i := 3) dX4_timeOne_9 (by decide) ?_
      refine bq_aload_n (i := 3) dX4_timeOne_10 rfl ?_
      refine bq_ifnonnull (tgt := 18) dX4_timeOne_11 (by decide) ?_
      refine bq_aload_n (i := 3) dX4_timeOne_18 rfl ?_
      refine bt_get0 dX4_timeOne_19 fl_X4_107 (by first | assumption | exact J.v3 | exact J.v4 | exact J.v5 | exact J.v6 | exact J.l0 | exact J.l1 | exact J.l2 | exact J.l3 | exact J.row (by assumption) | exact J.ops (by assumption) | exact J.job (by assumption)) rfl (by decide) ?_
      refine bq_istore (i := 4) dX4_timeOne_22 (by decide) ?_
      refine bq_iload (i := 4) dX4_timeOne_24 rfl ?_
      refine bq_aload_n (i := 0) dX4_timeOne_26 rfl ?_
      refine bt_get3 (c' := 3) (n := 0) dX4_timeOne_27 fl_X4_24 (by first | assumption | exact J.v3 | exact J.v4 | exact J.v5 | exact J.v6 | exact J.l0 | exact J.l1 | exact J.l2 | exact J.l3 | exact J.row (by assumption) | exact J.ops (by assumption) | exact J.job (by assumption)) ⟨rfl, rfl, rfl⟩ (by decide) ?_
      refine bq_aload_n (i := 3) dX4_timeOne_30 rfl ?_
      refine bq_aload_n (i := 1) dX4_timeOne_31 rfl ?_
      refine bt_callVr (c := 3) (i := 0) dX4_timeOne_32 rfl ml_X4_110 (by first | assumption | exact J.v3 | exact J.v4 | exact J.v5 | exact J.v6 | exact J.l0 | exact J.l1 | exact J.l2 | exact J.l3 | exact J.row (by assumption) | exact J.ops (by assumption) | exact J.job (by assumption)) (by decide) (c_betS (i := i) (a := a_6) J (by assumption) (by assumption)) (by decide) (by decide) (Nat.le_of_ble_eq_true rfl) rfl ?_
      refine bq_iadd dX4_timeOne_35 ?_
      refine bq_istore (i := 5) dX4_timeOne_36 (by decide) ?_
      refine bq_aload_nN (i := 2) dX4_timeOne_38 rfl ?_
      refine bq_ifnullN (tgt := 53) dX4_timeOne_39 (by decide) ?_
      refine bq_aload_n (i := 1) dX4_timeOne_53 rfl ?_
      refine bq_aload_n (i := 1) dX4_timeOne_54 rfl ?_
      refine bt_get5s (c' := 1) (a := m) dX4_timeOne_55 fl_X4_34 (by first | assumption | exact J.v3 | exact J.v4 | exact J.v5 | exact J.v6 | exact J.l0 | exact J.l1 | exact J.l2 | exact J.l3 | exact J.row (by assumption) | exact J.ops (by assumption) | exact J.job (by assumption)) ⟨rfl, rfl⟩ (by decide) hm ?_
      refine bq_iload (i := 5) dX4_timeOne_58 rfl ?_
      refine bq_aload_n (i := 1) dX4_timeOne_60 rfl ?_
      refine bt_get4 dX4_timeOne_61 fl_X4_120 (by first | assumption | exact J.v3 | exact J.v4 | exact J.v5 | exact J.v6 | exact J.l0 | exact J.l1 | exact J.l2 | exact J.l3 | exact J.row (by assumption) | exact J.ops (by assumption) | exact J.job (by assumption)) rfl (by decide) ?_
      refine bt_callVr (c := 1) (i := m) dX4_timeOne_64 rfl ml_X4_123 (by first | assumption | exact J.v3 | exact J.v4 | exact J.v5 | exact J.v6 | exact J.l0 | exact J.l1 | exact J.l2 | exact J.l3 | exact J.row (by assumption) | exact J.ops (by assumption) | exact J.job (by assumption)) (by decide) (c_ls hVm) (by decide) (by decide) (Nat.le_of_ble_eq_true rfl) rfl ?_
      refine bt_put0 dX4_timeOne_67 fl_X4_62 (by first | assumption | exact J.v3 | exact J.v4 | exact J.v5 | exact J.v6 | exact J.l0 | exact J.l1 | exact J.l2 | exact J.l3 | exact J.row (by assumption) | exact J.ops (by assumption) | exact J.job (by assumption)) rfl (by decide) (by first | rfl | decide) (by first | rfl | decide) ?_
      refine bq_aload_n (i := 1) dX4_timeOne_70 rfl ?_
      refine bq_aload_n (i := 1) dX4_timeOne_71 rfl ?_
      refine bt_get0 dX4_timeOne_72 fl_X4_62 (by first | assumption | exact J.v3 | exact J.v4 | exact J.v5 | exact J.v6 | exact J.l0 | exact J.l1 | exact J.l2 | exact J.l3 | exact J.row (by assumption) | exact J.ops (by assumption) | exact J.job (by assumption)) rfl (by decide) ?_
      refine bq_aload_n (i := 1) dX4_timeOne_75 rfl ?_
      refine bt_get4 dX4_timeOne_76 fl_X4_120 (by first | assumption | exact J.v3 | exact J.v4 | exact J.v5 | exact J.v6 | exact J.l0 | exact J.l1 | exact J.l2 | exact J.l3 | exact J.row (by assumption) | exact J.ops (by assumption) | exact J.job (by assumption)) rfl (by decide) ?_
      refine bq_iadd dX4_timeOne_79 ?_
      refine bt_put0 dX4_timeOne_80 fl_X4_107 (by first | assumption | exact J.v3 | exact J.v4 | exact J.v5 | exact J.v6 | exact J.l0 | exact J.l1 | exact J.l2 | exact J.l3 | exact J.row (by assumption) | exact J.ops (by assumption) | exact J.job (by assumption)) rfl (by decide) (by first | rfl | decide) (by first | rfl | decide) ?_
      refine bq_aload_n (i := 0) dX4_timeOne_83 rfl ?_
      refine bq_aload_n (i := 0) dX4_timeOne_84 rfl ?_
      refine bt_get0 dX4_timeOne_85 fl_X4_58 (by first | assumption | exact J.v3 | exact J.v4 | exact J.v5 | exact J.v6 | exact J.l0 | exact J.l1 | exact J.l2 | exact J.l3 | exact J.row (by assumption) | exact J.ops (by assumption) | exact J.job (by assumption)) rfl (by decide) ?_
      refine bq_aload_n (i := 1) dX4_timeOne_88 rfl ?_
      refine bt_get0 dX4_timeOne_89 fl_X4_107 (by first | assumption | exact J.v3 | exact J.v4 | exact J.v5 | exact J.v6 | exact J.l0 | exact J.l1 | exact J.l2 | exact J.l3 | exact J.row (by assumption) | exact J.ops (by assumption) | exact J.job (by assumption)) rfl (by decide) ?_
      refine bq_mmax dX4_timeOne_92 ⟨ml_X4_114, mw_max⟩ (by decide) (Nat.le_of_ble_eq_true rfl) ?_
      refine bt_put0 dX4_timeOne_95 fl_X4_58 (by first | assumption | exact J.v3 | exact J.v4 | exact J.v5 | exact J.v6 | exact J.l0 | exact J.l1 | exact J.l2 | exact J.l3 | exact J.row (by assumption) | exact J.ops (by assumption) | exact J.job (by assumption)) rfl (by decide) (by first | rfl | decide) (by first | rfl | decide) ?_
      refine bq_aload_n (i := 0) dX4_timeOne_98 rfl ?_
      refine bt_get3 (c' := 7) (n := 2) dX4_timeOne_99 fl_X4_28 (by first | assumption | exact J.v3 | exact J.v4 | exact J.v5 | exact J.v6 | exact J.l0 | exact J.l1 | exact J.l2 | exact J.l3 | exact J.row (by assumption) | exact J.ops (by assumption) | exact J.job (by assumption)) ⟨rfl, rfl, rfl⟩ (by decide) ?_
      refine bq_aload_n (i := 1) dX4_timeOne_102 rfl ?_
      refine bt_add (c := 2) dX4_timeOne_103 ml_X4_126 (by first | assumption | exact J.v3 | exact J.v4 | exact J.v5 | exact J.v6 | exact J.l0 | exact J.l1 | exact J.l2 | exact J.l3 | exact J.row (by assumption) | exact J.ops (by assumption) | exact J.job (by assumption)) rfl (by first | rfl | exact rfl.symm) (by first | assumption | exact J.v3 | exact J.v4 | exact J.v5 | exact J.v6 | exact J.l0 | exact J.l1 | exact J.l2 | exact J.l3 | exact J.row (by assumption) | exact J.ops (by assumption) | exact J.job (by assumption)) (by exact hlen) (by decide) (Nat.le_of_ble_eq_true rfl) ?_
      refine bq_pop dX4_timeOne_106 rfl ?_
      have e1 := b_m_of hm
      exact bq_vret dX4_timeOne_107 rfl (by unfold b_one b_rdy; rw [e1, r_1, r_6]; exact bq_ret_i)
  · have v_1 := J.lnk6 (by first | assumption | exact J.v3 | exact J.v4 | exact J.v5 | exact J.v6 | exact J.l0 | exact J.l1 | exact J.l2 | exact J.l3 | exact J.row (by assumption) | exact J.ops (by assumption) | exact J.job (by assumption)) r_1
    refine bq_astore_n (i := 2) dX4_timeOne_4 (by decide) ?_
    refine bq_aload_n (i := 1) dX4_timeOne_5 rfl ?_
    refine bt_get2 (c' := 2) dX4_timeOne_6 fl_X4_104 (by first | assumption | exact J.v3 | exact J.v4 | exact J.v5 | exact J.v6 | exact J.l0 | exact J.l1 | exact J.l2 | exact J.l3 | exact J.row (by assumption) | exact J.ops (by assumption) | exact J.job (by assumption)) ⟨rfl, rfl⟩ (by decide) (fun r_6 => ?_) (fun a_6 r_6 => ?_)
    · refine bq_astore_nN (i := 3) dX4_timeOne_9 (by decide) ?_
      refine bq_aload_nN (i := 3) dX4_timeOne_10 rfl ?_
      refine bq_ifnonnullN dX4_timeOne_11 ?_
      refine bq_iconst (v := (nI 0)) dX4_timeOne_14 (by decide) ?_
      refine bq_goto (tgt := 22) dX4_timeOne_15 (by decide) ?_
      refine bq_istore (i := 4) dX4_timeOne_22 (by decide) ?_
      refine bq_iload (i := 4) dX4_timeOne_24 rfl ?_
      refine bq_aload_n (i := 0) dX4_timeOne_26 rfl ?_
      refine bt_get3 (c' := 3) (n := 0) dX4_timeOne_27 fl_X4_24 (by first | assumption | exact J.v3 | exact J.v4 | exact J.v5 | exact J.v6 | exact J.l0 | exact J.l1 | exact J.l2 | exact J.l3 | exact J.row (by assumption) | exact J.ops (by assumption) | exact J.job (by assumption)) ⟨rfl, rfl, rfl⟩ (by decide) ?_
      refine bq_aload_nN (i := 3) dX4_timeOne_30 rfl ?_
      refine bq_aload_n (i := 1) dX4_timeOne_31 rfl ?_
      refine bt_callVr (c := 3) (i := 0) dX4_timeOne_32 rfl ml_X4_110 (by first | assumption | exact J.v3 | exact J.v4 | exact J.v5 | exact J.v6 | exact J.l0 | exact J.l1 | exact J.l2 | exact J.l3 | exact J.row (by assumption) | exact J.ops (by assumption) | exact J.job (by assumption)) (by decide) (c_betN (i := i) J (by assumption)) (by decide) (by decide) (Nat.le_of_ble_eq_true rfl) rfl ?_
      refine bq_iadd dX4_timeOne_35 ?_
      refine bq_istore (i := 5) dX4_timeOne_36 (by decide) ?_
      refine bq_aload_n (i := 2) dX4_timeOne_38 rfl ?_
      refine bq_ifnull dX4_timeOne_39 ?_
      refine bq_iload (i := 5) dX4_timeOne_42 rfl ?_
      refine bq_aload_n (i := 2) dX4_timeOne_44 rfl ?_
      refine bt_get0 dX4_timeOne_45 fl_X4_107 (by first | assumption | exact J.v3 | exact J.v4 | exact J.v5 | exact J.v6 | exact J.l0 | exact J.l1 | exact J.l2 | exact J.l3 | exact J.row (by assumption) | exact J.ops (by assumption) | exact J.job (by assumption)) rfl (by decide) ?_
      refine bq_mmax dX4_timeOne_48 ⟨ml_X4_114, mw_max⟩ (by decide) (Nat.le_of_ble_eq_true rfl) ?_
      refine bq_istore (i := 5) dX4_timeOne_51 (by decide) ?_
      refine bq_aload_n (i := 1) dX4_timeOne_53 rfl ?_
      refine bq_aload_n (i := 1) dX4_timeOne_54 rfl ?_
      refine bt_get5s (c' := 1) (a := m) dX4_timeOne_55 fl_X4_34 (by first | assumption | exact J.v3 | exact J.v4 | exact J.v5 | exact J.v6 | exact J.l0 | exact J.l1 | exact J.l2 | exact J.l3 | exact J.row (by assumption) | exact J.ops (by assumption) | exact J.job (by assumption)) ⟨rfl, rfl⟩ (by decide) hm ?_
      refine bq_iload (i := 5) dX4_timeOne_58 rfl ?_
      refine bq_aload_n (i := 1) dX4_timeOne_60 rfl ?_
      refine bt_get4 dX4_timeOne_61 fl_X4_120 (by first | assumption | exact J.v3 | exact J.v4 | exact J.v5 | exact J.v6 | exact J.l0 | exact J.l1 | exact J.l2 | exact J.l3 | exact J.row (by assumption) | exact J.ops (by assumption) | exact J.job (by assumption)) rfl (by decide) ?_
      refine bt_callVr (c := 1) (i := m) dX4_timeOne_64 rfl ml_X4_123 (by first | assumption | exact J.v3 | exact J.v4 | exact J.v5 | exact J.v6 | exact J.l0 | exact J.l1 | exact J.l2 | exact J.l3 | exact J.row (by assumption) | exact J.ops (by assumption) | exact J.job (by assumption)) (by decide) (c_ls hVm) (by decide) (by decide) (Nat.le_of_ble_eq_true rfl) rfl ?_
      refine bt_put0 dX4_timeOne_67 fl_X4_62 (by first | assumption | exact J.v3 | exact J.v4 | exact J.v5 | exact J.v6 | exact J.l0 | exact J.l1 | exact J.l2 | exact J.l3 | exact J.row (by assumption) | exact J.ops (by assumption) | exact J.job (by assumption)) rfl (by decide) (by first | rfl | decide) (by first | rfl | decide) ?_
      refine bq_aload_n (i := 1) dX4_timeOne_70 rfl ?_
      refine bq_aload_n (i := 1) dX4_timeOne_71 rfl ?_
      refine bt_get0 dX4_timeOne_72 fl_X4_62 (by first | assumption | exact J.v3 | exact J.v4 | exact J.v5 | exact J.v6 | exact J.l0 | exact J.l1 | exact J.l2 | exact J.l3 | exact J.row (by assumption) | exact J.ops (by assumption) | exact J.job (by assumption)) rfl (by decide) ?_
      refine bq_aload_n (i := 1) dX4_timeOne_75 rfl ?_
      refine bt_get4 dX4_timeOne_76 fl_X4_120 (by first | assumption | exact J.v3 | exact J.v4 | exact J.v5 | exact J.v6 | exact J.l0 | exact J.l1 | exact J.l2 | exact J.l3 | exact J.row (by assumption) | exact J.ops (by assumption) | exact J.job (by assumption)) rfl (by decide) ?_
      refine bq_iadd dX4_timeOne_79 ?_
      refine bt_put0 dX4_timeOne_80 fl_X4_107 (by first | assumption | exact J.v3 | exact J.v4 | exact J.v5 | exact J.v6 | exact J.l0 | exact J.l1 | exact J.l2 | exact J.l3 | exact J.row (by assumption) | exact J.ops (by assumption) | exact J.job (by assumption)) rfl (by decide) (by first | rfl | decide) (by first | rfl | decide) ?_
      refine bq_aload_n (i := 0) dX4_timeOne_83 rfl ?_
      refine bq_aload_n (i := 0) dX4_timeOne_84 rfl ?_
      refine bt_get0 dX4_timeOne_85 fl_X4_58 (by first | assumption | exact J.v3 | exact J.v4 | exact J.v5 | exact J.v6 | exact J.l0 | exact J.l1 | exact J.l2 | exact J.l3 | exact J.row (by assumption) | exact J.ops (by assumption) | exact J.job (by assumption)) rfl (by decide) ?_
      refine bq_aload_n (i := 1) dX4_timeOne_88 rfl ?_
      refine bt_get0 dX4_timeOne_89 fl_X4_107 (by first | assumption | exact J.v3 | exact J.v4 | exact J.v5 | exact J.v6 | exact J.l0 | exact J.l1 | exact J.l2 | exact J.l3 | exact J.row (by assumption) | exact J.ops (by assumption) | exact J.job (by assumption)) rfl (by decide) ?_
      refine bq_mmax dX4_timeOne_92 ⟨ml_X4_114, mw_max⟩ (by decide) (Nat.le_of_ble_eq_true rfl) ?_
      refine bt_put0 dX4_timeOne_95 fl_X4_58 (by first | assumption | exact J.v3 | exact J.v4 | exact J.v5 | exact J.v6 | exact J.l0 | exact J.l1 | exact J.l2 | exact J.l3 | exact J.row (by assumption) | exact J.ops (by assumption) | exact J.job (by assumption)) rfl (by decide) (by first | rfl | decide) (by first | rfl | decide) ?_
      refine bq_aload_n (i := 0) dX4_timeOne_98 rfl ?_
      refine bt_get3 (c' := 7) (n := 2) dX4_timeOne_99 fl_X4_28 (by first | assumption | exact J.v3 | exact J.v4 | exact J.v5 | exact J.v6 | exact J.l0 | exact J.l1 | exact J.l2 | exact J.l3 | exact J.row (by assumption) | exact J.ops (by assumption) | exact J.job (by assumption)) ⟨rfl, rfl, rfl⟩ (by decide) ?_
      refine bq_aload_n (i := 1) dX4_timeOne_102 rfl ?_
      refine bt_add (c := 2) dX4_timeOne_103 ml_X4_126 (by first | assumption | exact J.v3 | exact J.v4 | exact J.v5 | exact J.v6 | exact J.l0 | exact J.l1 | exact J.l2 | exact J.l3 | exact J.row (by assumption) | exact J.ops (by assumption) | exact J.job (by assumption)) rfl (by first | rfl | exact rfl.symm) (by first | assumption | exact J.v3 | exact J.v4 | exact J.v5 | exact J.v6 | exact J.l0 | exact J.l1 | exact J.l2 | exact J.l3 | exact J.row (by assumption) | exact J.ops (by assumption) | exact J.job (by assumption)) (by exact hlen) (by decide) (Nat.le_of_ble_eq_true rfl) ?_
      refine bq_pop dX4_timeOne_106 rfl ?_
      have e1 := b_m_of hm
      exact bq_vret dX4_timeOne_107 rfl (by unfold b_one b_rdy; rw [e1, r_1, r_6]; exact bq_ret_i)
    · have v_6 := J.lnk8 (by first | assumption | exact J.v3 | exact J.v4 | exact J.v5 | exact J.v6 | exact J.l0 | exact J.l1 | exact J.l2 | exact J.l3 | exact J.row (by assumption) | exact J.ops (by assumption) | exact J.job (by assumption)) r_6
      refine bq_astore_n (i := 3) dX4_timeOne_9 (by decide) ?_
      refine bq_aload_n (i := 3) dX4_timeOne_10 rfl ?_
      refine bq_ifnonnull (tgt := 18) dX4_timeOne_11 (by decide) ?_
      refine bq_aload_n (i := 3) dX4_timeOne_18 rfl ?_
      refine bt_get0 dX4_timeOne_19 fl_X4_107 (by first | assumption | exact J.v3 | exact J.v4 | exact J.v5 | exact J.v6 | exact J.l0 | exact J.l1 | exact J.l2 | exact J.l3 | exact J.row (by assumption) | exact J.ops (by assumption) | exact J.job (by assumption)) rfl (by decide) ?_
      refine bq_istore (i := 4) dX4_timeOne_22 (by decide) ?_
      refine bq_iload (i := 4) dX4_timeOne_24 rfl ?_
      refine bq_aload_n (i := 0) dX4_timeOne_26 rfl ?_
      refine bt_get3 (c' := 3) (n := 0) dX4_timeOne_27 fl_X4_24 (by first | assumption | exact J.v3 | exact J.v4 | exact J.v5 | exact J.v6 | exact J.l0 | exact J.l1 | exact J.l2 | exact J.l3 | exact J.row (by assumption) | exact J.ops (by assumption) | exact J.job (by assumption)) ⟨rfl, rfl, rfl⟩ (by decide) ?_
      refine bq_aload_n (i := 3) dX4_timeOne_30 rfl ?_
      refine bq_aload_n (i := 1) dX4_timeOne_31 rfl ?_
      refine bt_callVr (c := 3) (i := 0) dX4_timeOne_32 rfl ml_X4_110 (by first | assumption | exact J.v3 | exact J.v4 | exact J.v5 | exact J.v6 | exact J.l0 | exact J.l1 | exact J.l2 | exact J.l3 | exact J.row (by assumption) | exact J.ops (by assumption) | exact J.job (by assumption)) (by decide) (c_betS (i := i) (a := a_6) J (by assumption) (by assumption)) (by decide) (by decide) (Nat.le_of_ble_eq_true rfl) rfl ?_
      refine bq_iadd dX4_timeOne_35 ?_
      refine bq_istore (i := 5) dX4_timeOne_36 (by decide) ?_
      refine bq_aload_n (i := 2) dX4_timeOne_38 rfl ?_
      refine bq_ifnull dX4_timeOne_39 ?_
      refine bq_iload (i := 5) dX4_timeOne_42 rfl ?_
      refine bq_aload_n (i := 2) dX4_timeOne_44 rfl ?_
      refine bt_get0 dX4_timeOne_45 fl_X4_107 (by first | assumption | exact J.v3 | exact J.v4 | exact J.v5 | exact J.v6 | exact J.l0 | exact J.l1 | exact J.l2 | exact J.l3 | exact J.row (by assumption) | exact J.ops (by assumption) | exact J.job (by assumption)) rfl (by decide) ?_
      refine bq_mmax dX4_timeOne_48 ⟨ml_X4_114, mw_max⟩ (by decide) (Nat.le_of_ble_eq_true rfl) ?_
      refine bq_istore (i := 5) dX4_timeOne_51 (by decide) ?_
      refine bq_aload_n (i := 1) dX4_timeOne_53 rfl ?_
      refine bq_aload_n (i := 1) dX4_timeOne_54 rfl ?_
      refine bt_get5s (c' := 1) (a := m) dX4_timeOne_55 fl_X4_34 (by first | assumption | exact J.v3 | exact J.v4 | exact J.v5 | exact J.v6 | exact J.l0 | exact J.l1 | exact J.l2 | exact J.l3 | exact J.row (by assumption) | exact J.ops (by assumption) | exact J.job (by assumption)) ⟨rfl, rfl⟩ (by decide) hm ?_
      refine bq_iload (i := 5) dX4_timeOne_58 rfl ?_
      refine bq_aload_n (i := 1) dX4_timeOne_60 rfl ?_
      refine bt_get4 dX4_timeOne_61 fl_X4_120 (by first | assumption | exact J.v3 | exact J.v4 | exact J.v5 | exact J.v6 | exact J.l0 | exact J.l1 | exact J.l2 | exact J.l3 | exact J.row (by assumption) | exact J.ops (by assumption) | exact J.job (by assumption)) rfl (by decide) ?_
      refine bt_callVr (c := 1) (i := m) dX4_timeOne_64 rfl ml_X4_123 (by first | assumption | exact J.v3 | exact J.v4 | exact J.v5 | exact J.v6 | exact J.l0 | exact J.l1 | exact J.l2 | exact J.l3 | exact J.row (by assumption) | exact J.ops (by assumption) | exact J.job (by assumption)) (by decide) (c_ls hVm) (by decide) (by decide) (Nat.le_of_ble_eq_true rfl) rfl ?_
      refine bt_put0 dX4_timeOne_67 fl_X4_62 (by first | assumption | exact J.v3 | exact J.v4 | exact J.v5 | exact J.v6 | exact J.l0 | exact J.l1 | exact J.l2 | exact J.l3 | exact J.row (by assumption) | exact J.ops (by assumption) | exact J.job (by assumption)) rfl (by decide) (by first | rfl | decide) (by first | rfl | decide) ?_
      refine bq_aload_n (i := 1) dX4_timeOne_70 rfl ?_
      refine bq_aload_n (i := 1) dX4_timeOne_71 rfl ?_
      refine bt_get0 dX4_timeOne_72 fl_X4_62 (by first | assumption | exact J.v3 | exact J.v4 | exact J.v5 | exact J.v6 | exact J.l0 | exact J.l1 | exact J.l2 | exact J.l3 | exact J.row (by assumption) | exact J.ops (by assumption) | exact J.job (by assumption)) rfl (by decide) ?_
      refine bq_aload_n (i := 1) dX4_timeOne_75 rfl ?_
      refine bt_get4 dX4_timeOne_76 fl_X4_120 (by first | assumption | exact J.v3 | exact J.v4 | exact J.v5 | exact J.v6 | exact J.l0 | exact J.l1 | exact J.l2 | exact J.l3 | exact J.row (by assumption) | exact J.ops (by assumption) | exact J.job (by assumption)) rfl (by decide) ?_
      refine bq_iadd dX4_timeOne_79 ?_
      refine bt_put0 dX4_timeOne_80 fl_X4_107 (by first | assumption | exact J.v3 | exact J.v4 | exact J.v5 | exact J.v6 | exact J.l0 | exact J.l1 | exact J.l2 | exact J.l3 | exact J.row (by assumption) | exact J.ops (by assumption) | exact J.job (by assumption)) rfl (by decide) (by first | rfl | decide) (by first | rfl | decide) ?_
      refine bq_aload_n (i := 0) dX4_timeOne_83 rfl ?_
      refine bq_aload_n (i := 0) dX4_timeOne_84 rfl ?_
      refine bt_get0 dX4_timeOne_85 fl_X4_58 (by first | assumption | exact J.v3 | exact J.v4 | exact J.v5 | exact J.v6 | exact J.l0 | exact J.l1 | exact J.l2 | exact J.l3 | exact J.row (by assumption) | exact J.ops (by assumption) | exact J.job (by assumption)) rfl (by decide) ?_
      refine bq_aload_n (i := 1) dX4_timeOne_88 rfl ?_
      refine bt_get0 dX4_timeOne_89 fl_X4_107 (by first | assumption | exact J.v3 | exact J.v4 | exact J.v5 | exact J.v6 | exact J.l0 | exact J.l1 | exact J.l2 | exact J.l3 | exact J.row (by assumption) | exact J.ops (by assumption) | exact J.job (by assumption)) rfl (by decide) ?_
      refine bq_mmax dX4_timeOne_92 ⟨ml_X4_114, mw_max⟩ (by decide) (Nat.le_of_ble_eq_true rfl) ?_
      refine bt_put0 dX4_timeOne_95 fl_X4_58 (by first | assumption | exact J.v3 | exact J.v4 | exact J.v5 | exact J.v6 | exact J.l0 | exact J.l1 | exact J.l2 | exact J.l3 | exact J.row (by assumption) | exact J.ops (by assumption) | exact J.job (by assumption)) rfl (by decide) (by first | rfl | decide) (by first | rfl | decide) ?_
      refine bq_aload_n (i := 0) dX4_timeOne_98 rfl ?_
      refine bt_get3 (c' := 7) (n := 2) dX4_timeOne_99 fl_X4_28 (by first | assumption | exact J.v3 | exact J.v4 | exact J.v5 | exact J.v6 | exact J.l0 | exact J.l1 | exact J.l2 | exact J.l3 | exact J.row (by assumption) | exact J.ops (by assumption) | exact J.job (by assumption)) ⟨rfl, rfl, rfl⟩ (by decide) ?_
      refine bq_aload_n (i := 1) dX4_timeOne_102 rfl ?_
      refine bt_add (c := 2) dX4_timeOne_103 ml_X4_126 (by first | assumption | exact J.v3 | exact J.v4 | exact J.v5 | exact J.v6 | exact J.l0 | exact J.l1 | exact J.l2 | exact J.l3 | exact J.row (by assumption) | exact J.ops (by assumption) | exact J.job (by assumption)) rfl (by first | rfl | exact rfl.symm) (by first | assumption | exact J.v3 | exact J.v4 | exact J.v5 | exact J.v6 | exact J.l0 | exact J.l1 | exact J.l2 | exact J.l3 | exact J.row (by assumption) | exact J.ops (by assumption) | exact J.job (by assumption)) (by exact hlen) (by decide) (Nat.le_of_ble_eq_true rfl) ?_
      refine bq_pop dX4_timeOne_106 rfl ?_
      have e1 := b_m_of hm
      exact bq_vret dX4_timeOne_107 rfl (by unfold b_one b_rdy; rw [e1, r_1, r_6]; exact bq_ret_i)
def b_put5 (y : bt_X) (i : Nat) : bt_X := bt_gs y 0 (i / 4) 4 (y.1 0 (i / 4) 4 + nI 1)
def b_put6 (y : bt_X) (m : Nat) : bt_X := bt_gs y 1 m 6 (y.1 1 m 6 + nI 1)
def b_tick (σ x : bt_X) (m i : Nat) : bt_X := b_put6 (b_put5 (b_one σ x i) i) m
def b_row (σ : bt_X) (m : Nat) : bt_X → List Nat → bt_X
  | x, [] => x
  | x, i :: os => if σ.1 2 i 1 = x.1 0 (i / 4) 4 then b_row σ m (b_tick σ x m i) os else x
theorem b_tick_l {σ x : bt_X} {m i n : Nat} (h : n ≠ 2) : (b_tick σ x m i).2.2 n = x.2.2 n := if_neg h
theorem b_tick_2 {σ x : bt_X} {m i : Nat} : (b_tick σ x m i).2.2 2 = x.2.2 2 ++ [i] := by
  show (if 2 = 2 then x.2.2 2 ++ [i] else x.2.2 2) = _
  rw [if_pos rfl]
theorem b_gs_at {x : bt_X} {c i k : Nat} {v : Int32} : (bt_gs x c i k v).1 c i k = v := by simp [bt_gs]
theorem b_gs_ne {x : bt_X} {c i k c' i' k' : Nat} {v : Int32} (h : ¬ (c' = c ∧ i' = i ∧ k' = k)) : (bt_gs x c i k v).1 c' i' k' = x.1 c' i' k' := if_neg h
theorem b_one_1 {σ x : bt_X} {i m : Nat} {k : Nat} : (b_one σ x i).1 1 m k = x.1 1 m k := by
  have e : (b_one σ x i).1 = (b_put3 (b_put2 σ (b_put1 σ x i (b_ls σ (b_m σ i) (b_rdy σ x i) (σ.1 2 i 3))) i) i).1 := rfl
  rw [e]
  unfold b_put3
  rw [b_gs_ne (by omega)]
  unfold b_put2
  rw [b_gs_ne (by omega)]
  unfold b_put1
  rw [b_gs_ne (by omega)]
theorem b_tick_t {σ x : bt_X} {m i : Nat} : (b_tick σ x m i).1 1 m 6 = x.1 1 m 6 + nI 1 := by
  unfold b_tick b_put6
  rw [b_gs_at]
  unfold b_put5
  rw [b_gs_ne (by omega), b_one_1]
theorem b_tick_o {σ x : bt_X} {m i m' : Nat} (h : m' ≠ m) : (b_tick σ x m i).1 1 m' 6 = x.1 1 m' 6 := by
  unfold b_tick b_put6
  rw [b_gs_ne (by omega)]
  unfold b_put5
  rw [b_gs_ne (by omega), b_one_1]
/-- what giving a row its times leaves -/
theorem b_row_fr {σ : bt_X} {m : Nat} : ∀ (os : List Nat) (x : bt_X), (b_row σ m x os).2.1 = x.2.1 ∧ (∀ n, n ≠ 2 → (b_row σ m x os).2.2 n = x.2.2 n) ∧ (∀ m', m' ≠ m → (b_row σ m x os).1 1 m' 6 = x.1 1 m' 6) ∧
    ∃ k : Nat, k ≤ os.length ∧ ((b_row σ m x os).2.2 2).length = (x.2.2 2).length + k ∧ (b_row σ m x os).1 1 m 6 = x.1 1 m 6 + nI k := by
  intro os
  induction os with
  | nil => intro x; exact ⟨rfl, fun _ _ => rfl, fun _ _ => rfl, 0, Nat.le_refl _, rfl, (Int32.add_zero _).symm⟩
  | cons i os ih =>
    intro x
    unfold b_row
    by_cases c : σ.1 2 i 1 = x.1 0 (i / 4) 4
    · rw [if_pos c]
      obtain ⟨h1, h2, h3, k, h4, h5, h6⟩ := ih (b_tick σ x m i)
      refine ⟨h1, fun n hn => (h2 n hn).trans (b_tick_l hn), fun m' hm => (h3 m' hm).trans (b_tick_o hm), k + 1, by simp; omega, ?_, ?_⟩
      · rw [h5, b_tick_2, List.length_append]; simp; omega
      · rw [h6, b_tick_t, Int32.add_assoc, nI_add, Nat.add_comm]
    · rw [if_neg c]
      exact ⟨rfl, fun _ _ => rfl, fun _ _ => rfl, 0, Nat.zero_le _, rfl, (Int32.add_zero _).symm⟩
set_option maxRecDepth 100000 in
set_option maxHeartbeats 400000 in
theorem c_row_l {G : bp_X} {α : bt_A} {σ : bt_X} {m : Nat} (hV : bt_V α 1 m) (os : List Nat) : ∀ (x : bt_X) (j : Nat), bt_J α σ x → (x.2.2 (4 + m)).length ≤ 33 → (x.2.2 2).length + os.length ≤ 32 → j ≤ 33 → (x.2.2 (4 + m)).drop j = os →
    bq_W G mX4_timeRow 8 5 [(0, .ref (bt_ad α 4 0)), (1, .ref (bt_ad α 1 m)), (2, .int (nI j))] [] (bt α σ x) (bq_ret none (bt α σ (b_row σ m x os))) := by
  induction os with
  | nil =>
    intro x j J hlen ho hj hd
    have hm := J.m4 hV
    unfold b_row
    refine bq_iload_n (i := 2) dX4_timeRow_5 rfl ?_
    refine bq_aload_n (i := 1) dX4_timeRow_6 rfl ?_
    refine bt_get3 (c' := 7) (n := (4 + m)) dX4_timeRow_7 fl_X4_40 (by first | assumption | exact J.v3 | exact J.v4 | exact J.v5 | exact J.v6 | exact J.l0 | exact J.l1 | exact J.l2 | exact J.l3 | exact J.row (by assumption) | exact J.ops (by assumption) | exact J.job (by assumption)) ⟨rfl, rfl, rfl⟩ (by decide) ?_
    refine bt_size dX4_timeRow_10 ml_X4_45 (by first | assumption | exact J.v3 | exact J.v4 | exact J.v5 | exact J.v6 | exact J.l0 | exact J.l1 | exact J.l2 | exact J.l3 | exact J.row (by assumption) | exact J.ops (by assumption) | exact J.job (by assumption)) (bt_lv (bt_sl_row (by assumption))) (by decide) (Nat.le_of_ble_eq_true rfl) ?_
    refine bq_icmp_ge (tgt := 77) dX4_timeRow_13 (by decide) (fun c_13 => ?_) (fun z9_ => absurd (show nI (x.2.2 (4 + m)).length ≤ nI j from nI_le (b_drop0 hd) (by omega)) z9_)
    exact bq_vret dX4_timeRow_77 rfl bq_ret_i
  | cons i os ih =>
    intro x j J hlen ho hj hd
    have hm := J.m4 hV
    obtain ⟨hi, hd1, hj1⟩ := b_dropc hd
    rw [List.length_cons] at ho
    unfold b_row
    refine bq_iload_n (i := 2) dX4_timeRow_5 rfl ?_
    refine bq_aload_n (i := 1) dX4_timeRow_6 rfl ?_
    refine bt_get3 (c' := 7) (n := (4 + m)) dX4_timeRow_7 fl_X4_40 (by first | assumption | exact J.v3 | exact J.v4 | exact J.v5 | exact J.v6 | exact J.l0 | exact J.l1 | exact J.l2 | exact J.l3 | exact J.row (by assumption) | exact J.ops (by assumption) | exact J.job (by assumption)) ⟨rfl, rfl, rfl⟩ (by decide) ?_
    refine bt_size dX4_timeRow_10 ml_X4_45 (by first | assumption | exact J.v3 | exact J.v4 | exact J.v5 | exact J.v6 | exact J.l0 | exact J.l1 | exact J.l2 | exact J.l3 | exact J.row (by assumption) | exact J.ops (by assumption) | exact J.job (by assumption)) (bt_lv (bt_sl_row (by assumption))) (by decide) (Nat.le_of_ble_eq_true rfl) ?_
    refine bq_icmp_ge (tgt := 77) dX4_timeRow_13 (by decide) (fun z9_ => absurd z9_ (show ¬ nI (x.2.2 (4 + m)).length ≤ nI j from nI_ge hj1 (by omega))) (fun c_13 => ?_)
    refine bq_aload_n (i := 1) dX4_timeRow_16 rfl ?_
    refine bt_get3 (c' := 7) (n := (4 + m)) dX4_timeRow_17 fl_X4_40 (by first | assumption | exact J.v3 | exact J.v4 | exact J.v5 | exact J.v6 | exact J.l0 | exact J.l1 | exact J.l2 | exact J.l3 | exact J.row (by assumption) | exact J.ops (by assumption) | exact J.job (by assumption)) ⟨rfl, rfl, rfl⟩ (by decide) ?_
    refine bq_iload_n (i := 2) dX4_timeRow_20 rfl ?_
    refine bt_geti (j := j) (y := i) (c' := 2) dX4_timeRow_21 ml_X4_72 (by first | assumption | exact J.v3 | exact J.v4 | exact J.v5 | exact J.v6 | exact J.l0 | exact J.l1 | exact J.l2 | exact J.l3 | exact J.row (by assumption) | exact J.ops (by assumption) | exact J.job (by assumption)) (bt_lv (bt_sl_row (by assumption))) rfl hi bt_lc_row (by decide) (Nat.le_of_ble_eq_true rfl) (fun v_21 => ?_)
    refine bt_cast (c := 2) dX4_timeRow_24 rfl cl_X4_35 (by first | assumption | exact J.v3 | exact J.v4 | exact J.v5 | exact J.v6 | exact J.l0 | exact J.l1 | exact J.l2 | exact J.l3 | exact J.row (by assumption) | exact J.ops (by assumption) | exact J.job (by assumption)) (by decide) ?_
    refine bq_astore_n (i := 3) dX4_timeRow_27 (by decide) ?_
    refine bq_aload_n (i := 3) dX4_timeRow_28 rfl ?_
    refine bt_get4 dX4_timeRow_29 fl_X4_89 (by first | assumption | exact J.v3 | exact J.v4 | exact J.v5 | exact J.v6 | exact J.l0 | exact J.l1 | exact J.l2 | exact J.l3 | exact J.row (by assumption) | exact J.ops (by assumption) | exact J.job (by assumption)) rfl (by decide) ?_
    refine bq_aload_n (i := 3) dX4_timeRow_32 rfl ?_
    refine bt_get3 (c' := 0) (n := (i / 4)) dX4_timeRow_33 fl_X4_92 (by first | assumption | exact J.v3 | exact J.v4 | exact J.v5 | exact J.v6 | exact J.l0 | exact J.l1 | exact J.l2 | exact J.l3 | exact J.row (by assumption) | exact J.ops (by assumption) | exact J.job (by assumption)) ⟨rfl, rfl, rfl⟩ (by decide) ?_
    refine bt_get0 dX4_timeRow_36 fl_X4_85 (by first | assumption | exact J.v3 | exact J.v4 | exact J.v5 | exact J.v6 | exact J.l0 | exact J.l1 | exact J.l2 | exact J.l3 | exact J.row (by assumption) | exact J.ops (by assumption) | exact J.job (by assumption)) rfl (by decide) ?_
    refine bq_icmp_eq (tgt := 43) dX4_timeRow_39 (by decide) (fun c_39 => ?_) (fun c_39 => ?_)
    · rw [if_pos c_39]
      refine bq_aload_n (i := 0) dX4_timeRow_43 rfl ?_
      refine bq_aload_n (i := 3) dX4_timeRow_44 rfl ?_
      refine bt_callVr (c := 4) (i := 0) dX4_timeRow_45 rfl ml_X4_96 (by first | assumption | exact J.v3 | exact J.v4 | exact J.v5 | exact J.v6 | exact J.l0 | exact J.l1 | exact J.l2 | exact J.l3 | exact J.row (by assumption) | exact J.ops (by assumption) | exact J.job (by assumption)) (by decide) (c_one J (by assumption) (by omega)) (by decide) (by decide) (Nat.le_of_ble_eq_true rfl) rfl ?_
      refine bq_aload_n (i := 3) dX4_timeRow_48 rfl ?_
      refine bt_get3 (c' := 0) (n := (i / 4)) dX4_timeRow_49 fl_X4_92 (by first | assumption | exact J.v3 | exact J.v4 | exact J.v5 | exact J.v6 | exact J.l0 | exact J.l1 | exact J.l2 | exact J.l3 | exact J.row (by assumption) | exact J.ops (by assumption) | exact J.job (by assumption)) ⟨rfl, rfl, rfl⟩ (by decide) ?_
      refine bq_dup dX4_timeRow_52 rfl ?_
      refine bt_get0 dX4_timeRow_53 fl_X4_85 (by first | assumption | exact J.v3 | exact J.v4 | exact J.v5 | exact J.v6 | exact J.l0 | exact J.l1 | exact J.l2 | exact J.l3 | exact J.row (by assumption) | exact J.ops (by assumption) | exact J.job (by assumption)) rfl (by decide) ?_
      refine bq_iconst (v := (nI 1)) dX4_timeRow_56 (by decide) ?_
      refine bq_iadd dX4_timeRow_57 ?_
      refine bt_put0 dX4_timeRow_58 fl_X4_85 (by first | assumption | exact J.v3 | exact J.v4 | exact J.v5 | exact J.v6 | exact J.l0 | exact J.l1 | exact J.l2 | exact J.l3 | exact J.row (by assumption) | exact J.ops (by assumption) | exact J.job (by assumption)) rfl (by decide) (by first | rfl | decide) (by first | rfl | decide) ?_
      refine bq_aload_n (i := 1) dX4_timeRow_61 rfl ?_
      refine bq_dup dX4_timeRow_62 rfl ?_
      refine bt_get0 dX4_timeRow_63 fl_X4_88 (by first | assumption | exact J.v3 | exact J.v4 | exact J.v5 | exact J.v6 | exact J.l0 | exact J.l1 | exact J.l2 | exact J.l3 | exact J.row (by assumption) | exact J.ops (by assumption) | exact J.job (by assumption)) rfl (by decide) ?_
      refine bq_iconst (v := (nI 1)) dX4_timeRow_66 (by decide) ?_
      refine bq_iadd dX4_timeRow_67 ?_
      refine bt_put0 dX4_timeRow_68 fl_X4_88 (by first | assumption | exact J.v3 | exact J.v4 | exact J.v5 | exact J.v6 | exact J.l0 | exact J.l1 | exact J.l2 | exact J.l3 | exact J.row (by assumption) | exact J.ops (by assumption) | exact J.job (by assumption)) rfl (by decide) (by first | rfl | decide) (by first | rfl | decide) ?_
      refine bq_iinc dX4_timeRow_71 rfl (by decide) (by first | exact bp_inc _ | rfl) ?_
      refine bq_goto (tgt := 5) dX4_timeRow_74 (by decide) ?_
      refine bq_lvs (lv' := [(0, .ref (bt_ad α 4 0)), (1, .ref (bt_ad α 1 m)), (2, .int (nI (j + 1)))]) ⟨rfl, rfl, rfl, trivial⟩ ?_
      exact ih (b_tick σ x m i) (j + 1) (J.any rfl) (by rw [b_tick_l (by omega)]; exact hlen) (by rw [b_tick_2, List.length_append]; show _ + 1 + _ ≤ 32; omega) (by omega) (by rw [b_tick_l (by omega)]; exact hd1)
    · rw [if_neg c_39]
      exact bq_vret dX4_timeRow_42 rfl bq_ret_i
set_option maxRecDepth 100000 in
set_option maxHeartbeats 400000 in
theorem c_row {G : bp_X} {α : bt_A} {σ x : bt_X} {m t : Nat} (J : bt_J α σ x) (hV : bt_V α 1 m) (hlen : (x.2.2 (4 + m)).length ≤ 33) (ht : x.1 1 m 6 = nI t) (htl : t ≤ (x.2.2 (4 + m)).length) (ho : (x.2.2 2).length + ((x.2.2 (4 + m)).length - t) ≤ 32) : bq_S G mX4_timeRow 8 [.ref (bt_ad α 4 0), .ref (bt_ad α 1 m)] (bt α σ x) (bq_ret none (bt α σ (b_row σ m x ((x.2.2 (4 + m)).drop t)))) := by
  refine bq_ofW (by decide +kernel) rfl (Nat.le_of_ble_eq_true rfl) ?_
  refine bq_aload_n (i := 1) dX4_timeRow_0 rfl ?_
  refine bt_get0 dX4_timeRow_1 fl_X4_88 (by first | assumption | exact J.v3 | exact J.v4 | exact J.v5 | exact J.v6 | exact J.l0 | exact J.l1 | exact J.l2 | exact J.l3 | exact J.row (by assumption) | exact J.ops (by assumption) | exact J.job (by assumption)) rfl (by decide) ?_
  rw [ht]
  refine bq_istore_n (i := 2) dX4_timeRow_4 (by decide) ?_
  refine bq_lvs (lv' := [(0, .ref (bt_ad α 4 0)), (1, .ref (bt_ad α 1 m)), (2, .int (nI t))]) ⟨rfl, rfl, rfl, trivial⟩ ?_
  exact c_row_l hV _ x t J hlen (by rw [List.length_drop]; exact ho) (by omega) rfl
def b_z0 (x : bt_X) : List Nat → bt_X
  | [] => x
  | j :: L => b_z0 (bt_gs x 0 j 4 (nI 0)) L
def b_z1 (x : bt_X) : List Nat → bt_X
  | [] => x
  | m :: L => b_z1 (bt_gs x 1 m 6 (nI 0)) L
def b_cnt (x : bt_X) : List Nat → Nat
  | [] => 0
  | m :: L => (x.2.2 (4 + m)).length + b_cnt x L
def b_begin (σ x : bt_X) : bt_X := b_z1 (b_z0 (bt_lp (bt_gs x 4 0 5 (nI 0)) 2 []) (σ.2.2 1)) (σ.2.2 0)
theorem b_z0_2 : ∀ (L : List Nat) (x : bt_X), (b_z0 x L).2 = x.2 := by
  intro L
  induction L with
  | nil => intro x; rfl
  | cons j L ih => intro x; exact ih _
theorem b_z1_2 : ∀ (L : List Nat) (x : bt_X), (b_z1 x L).2 = x.2 := by
  intro L
  induction L with
  | nil => intro x; rfl
  | cons j L ih => intro x; exact ih _
theorem b_cnt_eq {x y : bt_X} : ∀ (L : List Nat), (∀ m, y.2.2 (4 + m) = x.2.2 (4 + m)) → b_cnt y L = b_cnt x L := by
  intro L h
  induction L with
  | nil => rfl
  | cons m L ih => unfold b_cnt; rw [h m, ih]
set_option maxRecDepth 100000 in
set_option maxHeartbeats 400000 in
theorem c_begin_j {G : bp_X} {α : bt_A} {σ : bt_X} {Φ : bp_O → bq_O → Prop} (L : List Nat) : ∀ (x : bt_X) (j : Nat), bt_J α σ x → (σ.2.2 1).length ≤ 33 → j ≤ 33 → (σ.2.2 1).drop j = L →
    bq_W G mX4_begin 3 46 [(0, .ref (bt_ad α 4 0))] [] (bt α σ (b_z0 x L)) Φ → bq_W G mX4_begin 3 14 [(0, .ref (bt_ad α 4 0)), (1, .int (nI j))] [] (bt α σ x) Φ := by
  induction L with
  | nil =>
    intro x j J hlen hj hd kk
    refine bq_iload_n (i := 1) dX4_begin_14 rfl ?_
    refine bq_aload_n (i := 0) dX4_begin_15 rfl ?_
    refine bt_get3 (c' := 7) (n := 1) dX4_begin_16 fl_X4_18 (by first | assumption | exact J.v3 | exact J.v4 | exact J.v5 | exact J.v6 | exact J.l0 | exact J.l1 | exact J.l2 | exact J.l3 | exact J.row (by assumption) | exact J.ops (by assumption) | exact J.job (by assumption)) ⟨rfl, rfl, rfl⟩ (by decide) ?_
    refine bt_size dX4_begin_19 ml_X4_45 (by first | assumption | exact J.v3 | exact J.v4 | exact J.v5 | exact J.v6 | exact J.l0 | exact J.l1 | exact J.l2 | exact J.l3 | exact J.row (by assumption) | exact J.ops (by assumption) | exact J.job (by assumption)) rfl (by decide) (Nat.le_of_ble_eq_true rfl) ?_
    refine bq_icmp_ge (tgt := 46) dX4_begin_22 (by decide) (fun c_22 => ?_) (fun z9_ => absurd (show nI (σ.2.2 1).length ≤ nI j from nI_le (b_drop0 hd) (by omega)) z9_)
    refine bq_lvs (lv' := [(0, .ref (bt_ad α 4 0))]) ⟨rfl, trivial⟩ ?_
    exact kk
  | cons y L ih =>
    intro x j J hlen hj hd kk
    obtain ⟨hy, hd1, hj1⟩ := b_dropc hd
    refine bq_iload_n (i := 1) dX4_begin_14 rfl ?_
    refine bq_aload_n (i := 0) dX4_begin_15 rfl ?_
    refine bt_get3 (c' := 7) (n := 1) dX4_begin_16 fl_X4_18 (by first | assumption | exact J.v3 | exact J.v4 | exact J.v5 | exact J.v6 | exact J.l0 | exact J.l1 | exact J.l2 | exact J.l3 | exact J.row (by assumption) | exact J.ops (by assumption) | exact J.job (by assumption)) ⟨rfl, rfl, rfl⟩ (by decide) ?_
    refine bt_size dX4_begin_19 ml_X4_45 (by first | assumption | exact J.v3 | exact J.v4 | exact J.v5 | exact J.v6 | exact J.l0 | exact J.l1 | exact J.l2 | exact J.l3 | exact J.row (by assumption) | exact J.ops (by assumption) | exact J.job (by assumption)) rfl (by decide) (Nat.le_of_ble_eq_true rfl) ?_
    refine bq_icmp_ge (tgt := 46) dX4_begin_22 (by decide) (fun z9_ => absurd z9_ (show ¬ nI (σ.2.2 1).length ≤ nI j from nI_ge hj1 (by omega))) (fun c_22 => ?_)
    refine bq_aload_n (i := 0) dX4_begin_25 rfl ?_
    refine bt_get3 (c' := 7) (n := 1) dX4_begin_26 fl_X4_18 (by first | assumption | exact J.v3 | exact J.v4 | exact J.v5 | exact J.v6 | exact J.l0 | exact J.l1 | exact J.l2 | exact J.l3 | exact J.row (by assumption) | exact J.ops (by assumption) | exact J.job (by assumption)) ⟨rfl, rfl, rfl⟩ (by decide) ?_
    refine bq_iload_n (i := 1) dX4_begin_29 rfl ?_
    refine bt_geti (j := j) (y := y) (c' := 0) dX4_begin_30 ml_X4_72 (by first | assumption | exact J.v3 | exact J.v4 | exact J.v5 | exact J.v6 | exact J.l0 | exact J.l1 | exact J.l2 | exact J.l3 | exact J.row (by assumption) | exact J.ops (by assumption) | exact J.job (by assumption)) rfl rfl hy rfl (by decide) (Nat.le_of_ble_eq_true rfl) (fun v_30 => ?_)
    refine bt_cast (c := 0) dX4_begin_33 rfl cl_X4_83 (by first | assumption | exact J.v3 | exact J.v4 | exact J.v5 | exact J.v6 | exact J.l0 | exact J.l1 | exact J.l2 | exact J.l3 | exact J.row (by assumption) | exact J.ops (by assumption) | exact J.job (by assumption)) (by decide) ?_
    refine bq_iconst (v := (nI 0)) dX4_begin_36 (by decide) ?_
    refine bt_put0 dX4_begin_37 fl_X4_85 (by first | assumption | exact J.v3 | exact J.v4 | exact J.v5 | exact J.v6 | exact J.l0 | exact J.l1 | exact J.l2 | exact J.l3 | exact J.row (by assumption) | exact J.ops (by assumption) | exact J.job (by assumption)) rfl (by decide) (by first | rfl | decide) (by first | rfl | decide) ?_
    refine bq_iinc dX4_begin_40 rfl (by decide) (by first | exact bp_inc _ | rfl) ?_
    refine bq_goto (tgt := 14) dX4_begin_43 (by decide) ?_
    refine bq_lvs (lv' := [(0, .ref (bt_ad α 4 0)), (1, .int (nI (j + 1)))]) ⟨rfl, rfl, trivial⟩ ?_
    exact ih _ (j + 1) J.gs hlen (by omega) hd1 kk
set_option maxRecDepth 100000 in
set_option maxHeartbeats 400000 in
theorem c_begin_m {G : bp_X} {α : bt_A} {σ : bt_X} {r : Nat} {z : bt_X} (L : List Nat) : ∀ (x : bt_X) (j p : Nat), bt_J α σ x → (σ.2.2 0).length ≤ 33 → j ≤ 33 → (σ.2.2 0).drop j = L → p + b_cnt x L = r → b_z1 x L = z →
    bq_W G mX4_begin 3 50 [(0, .ref (bt_ad α 4 0)), (1, .int (nI p)), (2, .int (nI j))] [] (bt α σ x) (bq_ret (some (.int (nI r))) (bt α σ z)) := by
  induction L with
  | nil =>
    intro x j p J hlen hj hd hr hz
    subst hr; subst hz
    unfold b_z1 b_cnt
    refine bq_iload_n (i := 2) dX4_begin_50 rfl ?_
    refine bq_aload_n (i := 0) dX4_begin_51 rfl ?_
    refine bt_get3 (c' := 7) (n := 0) dX4_begin_52 fl_X4_12 (by first | assumption | exact J.v3 | exact J.v4 | exact J.v5 | exact J.v6 | exact J.l0 | exact J.l1 | exact J.l2 | exact J.l3 | exact J.row (by assumption) | exact J.ops (by assumption) | exact J.job (by assumption)) ⟨rfl, rfl, rfl⟩ (by decide) ?_
    refine bt_size dX4_begin_55 ml_X4_45 (by first | assumption | exact J.v3 | exact J.v4 | exact J.v5 | exact J.v6 | exact J.l0 | exact J.l1 | exact J.l2 | exact J.l3 | exact J.row (by assumption) | exact J.ops (by assumption) | exact J.job (by assumption)) rfl (by decide) (Nat.le_of_ble_eq_true rfl) ?_
    refine bq_icmp_ge (tgt := 102) dX4_begin_58 (by decide) (fun c_58 => ?_) (fun z9_ => absurd (show nI (σ.2.2 0).length ≤ nI j from nI_le (b_drop0 hd) (by omega)) z9_)
    refine bq_iload_n (i := 1) dX4_begin_102 rfl ?_
    exact bq_iret dX4_begin_103 rfl (by first | rfl | decide) bq_ret_i
  | cons y L ih =>
    intro x j p J hlen hj hd hr hz
    obtain ⟨hy, hd1, hj1⟩ := b_dropc hd
    unfold b_z1 at hz
    unfold b_cnt at hr
    have hm : y < 4 → y < 4 := id
    refine bq_iload_n (i := 2) dX4_begin_50 rfl ?_
    refine bq_aload_n (i := 0) dX4_begin_51 rfl ?_
    refine bt_get3 (c' := 7) (n := 0) dX4_begin_52 fl_X4_12 (by first | assumption | exact J.v3 | exact J.v4 | exact J.v5 | exact J.v6 | exact J.l0 | exact J.l1 | exact J.l2 | exact J.l3 | exact J.row (by assumption) | exact J.ops (by assumption) | exact J.job (by assumption)) ⟨rfl, rfl, rfl⟩ (by decide) ?_
    refine bt_size dX4_begin_55 ml_X4_45 (by first | assumption | exact J.v3 | exact J.v4 | exact J.v5 | exact J.v6 | exact J.l0 | exact J.l1 | exact J.l2 | exact J.l3 | exact J.row (by assumption) | exact J.ops (by assumption) | exact J.job (by assumption)) rfl (by decide) (Nat.le_of_ble_eq_true rfl) ?_
    refine bq_icmp_ge (tgt := 102) dX4_begin_58 (by decide) (fun z9_ => absurd z9_ (show ¬ nI (σ.2.2 0).length ≤ nI j from nI_ge hj1 (by omega))) (fun c_58 => ?_)
    refine bq_aload_n (i := 0) dX4_begin_61 rfl ?_
    refine bt_get3 (c' := 7) (n := 0) dX4_begin_62 fl_X4_12 (by first | assumption | exact J.v3 | exact J.v4 | exact J.v5 | exact J.v6 | exact J.l0 | exact J.l1 | exact J.l2 | exact J.l3 | exact J.row (by assumption) | exact J.ops (by assumption) | exact J.job (by assumption)) ⟨rfl, rfl, rfl⟩ (by decide) ?_
    refine bq_iload_n (i := 2) dX4_begin_65 rfl ?_
    refine bt_geti (j := j) (y := y) (c' := 1) dX4_begin_66 ml_X4_72 (by first | assumption | exact J.v3 | exact J.v4 | exact J.v5 | exact J.v6 | exact J.l0 | exact J.l1 | exact J.l2 | exact J.l3 | exact J.row (by assumption) | exact J.ops (by assumption) | exact J.job (by assumption)) rfl rfl hy rfl (by decide) (Nat.le_of_ble_eq_true rfl) (fun v_66 => ?_)
    have hm := J.m4 v_66
    refine bt_cast (c := 1) dX4_begin_69 rfl cl_X4_41 (by first | assumption | exact J.v3 | exact J.v4 | exact J.v5 | exact J.v6 | exact J.l0 | exact J.l1 | exact J.l2 | exact J.l3 | exact J.row (by assumption) | exact J.ops (by assumption) | exact J.job (by assumption)) (by decide) ?_
    refine bq_iconst (v := (nI 0)) dX4_begin_72 (by decide) ?_
    refine bt_put0 dX4_begin_73 fl_X4_88 (by first | assumption | exact J.v3 | exact J.v4 | exact J.v5 | exact J.v6 | exact J.l0 | exact J.l1 | exact J.l2 | exact J.l3 | exact J.row (by assumption) | exact J.ops (by assumption) | exact J.job (by assumption)) rfl (by decide) (by first | rfl | decide) (by first | rfl | decide) ?_
    refine bq_iload_n (i := 1) dX4_begin_76 rfl ?_
    refine bq_aload_n (i := 0) dX4_begin_77 rfl ?_
    refine bt_get3 (c' := 7) (n := 0) dX4_begin_78 fl_X4_12 (by first | assumption | exact J.v3 | exact J.v4 | exact J.v5 | exact J.v6 | exact J.l0 | exact J.l1 | exact J.l2 | exact J.l3 | exact J.row (by assumption) | exact J.ops (by assumption) | exact J.job (by assumption)) ⟨rfl, rfl, rfl⟩ (by decide) ?_
    refine bq_iload_n (i := 2) dX4_begin_81 rfl ?_
    refine bt_geti (j := j) (y := y) (c' := 1) dX4_begin_82 ml_X4_72 (by first | assumption | exact J.v3 | exact J.v4 | exact J.v5 | exact J.v6 | exact J.l0 | exact J.l1 | exact J.l2 | exact J.l3 | exact J.row (by assumption) | exact J.ops (by assumption) | exact J.job (by assumption)) rfl rfl hy rfl (by decide) (Nat.le_of_ble_eq_true rfl) (fun v_82 => ?_)
    refine bt_cast (c := 1) dX4_begin_85 rfl cl_X4_41 (by first | assumption | exact J.v3 | exact J.v4 | exact J.v5 | exact J.v6 | exact J.l0 | exact J.l1 | exact J.l2 | exact J.l3 | exact J.row (by assumption) | exact J.ops (by assumption) | exact J.job (by assumption)) (by decide) ?_
    refine bt_get3 (c' := 7) (n := (4 + y)) dX4_begin_88 fl_X4_40 (by first | assumption | exact J.v3 | exact J.v4 | exact J.v5 | exact J.v6 | exact J.l0 | exact J.l1 | exact J.l2 | exact J.l3 | exact J.row (by assumption) | exact J.ops (by assumption) | exact J.job (by assumption)) ⟨rfl, rfl, rfl⟩ (by decide) ?_
    refine bt_size dX4_begin_91 ml_X4_45 (by first | assumption | exact J.v3 | exact J.v4 | exact J.v5 | exact J.v6 | exact J.l0 | exact J.l1 | exact J.l2 | exact J.l3 | exact J.row (by assumption) | exact J.ops (by assumption) | exact J.job (by assumption)) (bt_lv (bt_sl_row (by assumption))) (by decide) (Nat.le_of_ble_eq_true rfl) ?_
    refine bq_iadd dX4_begin_94 ?_
    rw [nI_add]
    refine bq_istore_n (i := 1) dX4_begin_95 (by decide) ?_
    refine bq_iinc dX4_begin_96 rfl (by decide) (by first | exact bp_inc _ | rfl) ?_
    refine bq_goto (tgt := 50) dX4_begin_99 (by decide) ?_
    refine bq_lvs (lv' := [(0, .ref (bt_ad α 4 0)), (1, .int (nI (p + (x.2.2 (4 + y)).length))), (2, .int (nI (j + 1)))]) ⟨rfl, rfl, rfl, trivial⟩ ?_
    exact ih _ (j + 1) _ J.gs hlen (by omega) hd1 (by rw [b_cnt_eq (x := x) (y := bt_gs x 1 y 6 (nI 0)) L (fun m => rfl)]; omega) hz
set_option maxRecDepth 100000 in
set_option maxHeartbeats 400000 in
theorem c_begin {G : bp_X} {α : bt_A} {σ x : bt_X} (J : bt_J α σ x) (h0 : (σ.2.2 0).length ≤ 33) (h1 : (σ.2.2 1).length ≤ 33) : bq_S G mX4_begin 3 [.ref (bt_ad α 4 0)] (bt α σ x) (bq_ret (some (.int (nI (b_cnt x (σ.2.2 0))))) (bt α σ (b_begin σ x))) := by
  refine bq_ofW (by decide +kernel) rfl (Nat.le_of_ble_eq_true rfl) ?_
  refine bq_aload_n (i := 0) dX4_begin_0 rfl ?_
  refine bq_iconst (v := (nI 0)) dX4_begin_1 (by decide) ?_
  refine bt_put0 dX4_begin_2 fl_X4_58 (by first | assumption | exact J.v3 | exact J.v4 | exact J.v5 | exact J.v6 | exact J.l0 | exact J.l1 | exact J.l2 | exact J.l3 | exact J.row (by assumption) | exact J.ops (by assumption) | exact J.job (by assumption)) rfl (by decide) (by first | rfl | decide) (by first | rfl | decide) ?_
  refine bq_aload_n (i := 0) dX4_begin_5 rfl ?_
  refine bt_get3 (c' := 7) (n := 2) dX4_begin_6 fl_X4_28 (by first | assumption | exact J.v3 | exact J.v4 | exact J.v5 | exact J.v6 | exact J.l0 | exact J.l1 | exact J.l2 | exact J.l3 | exact J.row (by assumption) | exact J.ops (by assumption) | exact J.job (by assumption)) ⟨rfl, rfl, rfl⟩ (by decide) ?_
  refine bt_clear dX4_begin_9 ml_X4_80 (by first | assumption | exact J.v3 | exact J.v4 | exact J.v5 | exact J.v6 | exact J.l0 | exact J.l1 | exact J.l2 | exact J.l3 | exact J.row (by assumption) | exact J.ops (by assumption) | exact J.job (by assumption)) rfl (by decide) (Nat.le_of_ble_eq_true rfl) ?_
  refine bq_iconst (v := (nI 0)) dX4_begin_12 (by decide) ?_
  refine bq_istore_n (i := 1) dX4_begin_13 (by decide) ?_
  refine bq_lvs (lv' := [(0, .ref (bt_ad α 4 0)), (1, .int (nI 0))]) ⟨rfl, rfl, trivial⟩ ?_
  refine c_begin_j _ _ 0 ((J.gs).lp) h1 (by omega) rfl ?_
  refine bq_iconst (v := (nI 0)) dX4_begin_46 (by decide) ?_
  refine bq_istore_n (i := 1) dX4_begin_47 (by decide) ?_
  refine bq_iconst (v := (nI 0)) dX4_begin_48 (by decide) ?_
  refine bq_istore_n (i := 2) dX4_begin_49 (by decide) ?_
  refine bq_lvs (lv' := [(0, .ref (bt_ad α 4 0)), (1, .int (nI 0)), (2, .int (nI 0))]) ⟨rfl, rfl, rfl, trivial⟩ ?_
  exact c_begin_m _ _ 0 0 (J.any (by rw [b_z0_2]; rfl)) h0 (by omega) rfl (by rw [Nat.zero_add]; exact b_cnt_eq _ (fun m => by rw [b_z0_2]; exact if_neg (by omega))) rfl

