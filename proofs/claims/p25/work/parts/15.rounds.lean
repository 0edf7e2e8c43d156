/-! ===== starts by rounds ===== -/
def b_fre (σ x : bt_X) (a : Option Nat) : Int32 := match a with
  | none => nI 0
  | some a => x.1 2 a 12 + σ.1 2 a 3
def b_rin (σ x : bt_X) (i : Nat) : Int32 := b_mx (b_fre σ x (x.2.1 2 i 8) + b_bet σ (x.2.1 2 i 8) i) ((σ.2.1 2 i 6).map fun a => x.1 2 a 12 + σ.1 2 a 3)
def b_prow (σ : bt_X) (m : Nat) : bt_X → Int32 → List Nat → Int32 × bt_X
  | x, mv, [] => (mv, x)
  | x, mv, i :: os => if b_ls σ m (b_rin σ x i) (σ.1 2 i 3) ≤ x.1 2 i 12 then b_prow σ m x mv os else b_prow σ m (bt_gs x 2 i 12 (b_ls σ m (b_rin σ x i) (σ.1 2 i 3))) (nI 1) os
def b_prows (σ : bt_X) : bt_X → Int32 → List Nat → Int32 × bt_X
  | x, mv, [] => (mv, x)
  | x, mv, m :: L => b_prows σ (b_prow σ m x (nI 0) (x.2.2 (4 + m))).2 (if (b_prow σ m x (nI 0) (x.2.2 (4 + m))).1 = 0 then mv else nI 1) L
def b_pr (σ : bt_X) : Nat → Int32 → bt_X → bt_X
  | 0, _, x => x
  | n + 1, mv, x => if mv = 0 then x else b_pr σ n (b_prows σ x (nI 0) (σ.2.2 0)).1 (b_prows σ x (nI 0) (σ.2.2 0)).2
def b_rs0 : bt_X → List Nat → bt_X
  | x, [] => x
  | x, i :: os => b_rs0 (bt_gs x 2 i 12 (nI 0)) os
def b_later (σ x : bt_X) : bt_X := b_pr σ 33 (nI 1) (b_rs0 x (x.2.2 2))
theorem b_prow_2 {σ : bt_X} {m : Nat} : ∀ (os : List Nat) (x : bt_X) (mv : Int32), (b_prow σ m x mv os).2.2 = x.2 := by
  intro os
  induction os with
  | nil => intro x mv; rfl
  | cons i os ih =>
    intro x mv
    unfold b_prow
    by_cases c : b_ls σ m (b_rin σ x i) (σ.1 2 i 3) ≤ x.1 2 i 12
    · rw [if_pos c]; exact ih _ _
    · rw [if_neg c]; exact ih _ _
theorem b_prows_2 {σ : bt_X} : ∀ (L : List Nat) (x : bt_X) (mv : Int32), (b_prows σ x mv L).2.2 = x.2 := by
  intro L
  induction L with
  | nil => intro x mv; rfl
  | cons m L ih => intro x mv; unfold b_prows; rw [ih, b_prow_2]
theorem b_rs0_2 : ∀ (os : List Nat) (x : bt_X), (b_rs0 x os).2 = x.2 := by
  intro os
  induction os with
  | nil => intro x; rfl
  | cons i os ih => intro x; exact ih _
theorem b_pr_2 {σ : bt_X} : ∀ (n : Nat) (mv : Int32) (x : bt_X), (b_pr σ n mv x).2 = x.2 := by
  intro n
  induction n with
  | zero => intro mv x; rfl
  | succ n ih =>
    intro mv x
    unfold b_pr
    by_cases c : mv = 0
    · rw [if_pos c]
    · rw [if_neg c, ih, b_prows_2]
set_option maxRecDepth 100000 in
set_option maxHeartbeats 400000 in
theorem c_rin {G : bp_X} {α : bt_A} {σ x : bt_X} {i : Nat} (J : bt_J α σ x) (hO : bt_V α 2 i) : bq_S G mX4_readyInRounds 1 [.ref (bt_ad α 4 0), .ref (bt_ad α 2 i)] (bt α σ x) (bq_ret (some (.int (b_rin σ x i))) (bt α σ x)) := by
  refine bq_ofW (by decide +kernel) rfl (Nat.le_of_ble_eq_true rfl) ?_
  refine bq_aload_n (i := 1) dX4_readyInRounds_0 rfl ?_
  refine bt_get5 (c' := 2) dX4_readyInRounds_1 fl_X4_100 (by first | assumption | exact J.v3 | exact J.v4 | exact J.v5 | exact J.v6 | exact J.l0 | exact J.l1 | exact J.l2 | exact J.l3 | exact J.row (by assumption) | exact J.ops (by assumption) | exact J.job (by assumption)) ⟨rfl, rfl⟩ (by decide) (fun r_1 => ?_) (fun a_1 r_1 => ?_)
  · refine bq_astore_nN (i := 2) dX4_readyInRounds_4 (by decide) ?_
    refine bq_aload_n (i := 1) dX4_readyInRounds_5 rfl ?_
    refine bt_get2 (c' := 2) dX4_readyInRounds_6 fl_X4_104 (by first | assumption | exact J.v3 | exact J.v4 | exact J.v5 | exact J.v6 | exact J.l0 | exact J.l1 | exact J.l2 | exact J.l3 | exact J.row (by assumption) | exact J.ops (by assumption) | exact J.job (by assumption)) ⟨rfl, rfl⟩ (by decide) (fun r_6 => ?_) (fun a_6 r_6 => ?_)
    · refine bq_astore_nN (i := 3) dX4_readyInRounds_9 (by decide) ?_
      refine bq_aload_nN (i := 3) dX4_readyInRounds_10 rfl ?_
      refine bq_ifnonnullN dX4_readyInRounds_11 ?_
      refine bq_iconst (v := (nI 0)) dX4_readyInRounds_14 (by decide) ?_
      refine bq_goto (tgt := 27) dX4_readyInRounds_15 (by decide) ?_
      refine bq_istore (i := 4) dX4_readyInRounds_27 (by decide) ?_
      refine bq_iload (i := 4) dX4_readyInRounds_29 rfl ?_
      refine bq_aload_n (i := 0) dX4_readyInRounds_31 rfl ?_
      refine bt_get3 (c' := 3) (n := 0) dX4_readyInRounds_32 fl_X4_24 (by first | assumption | exact J.v3 | exact J.v4 | exact J.v5 | exact J.v6 | exact J.l0 | exact J.l1 | exact J.l2 | exact J.l3 | exact J.row (by assumption) | exact J.ops (by assumption) | exact J.job (by assumption)) ⟨rfl, rfl, rfl⟩ (by decide) ?_
      refine bq_aload_nN (i := 3) dX4_readyInRounds_35 rfl ?_
      refine bq_aload_n (i := 1) dX4_readyInRounds_36 rfl ?_
      refine bt_callVr (c := 3) (i := 0) dX4_readyInRounds_37 rfl ml_X4_110 (by first | assumption | exact J.v3 | exact J.v4 | exact J.v5 | exact J.v6 | exact J.l0 | exact J.l1 | exact J.l2 | exact J.l3 | exact J.row (by assumption) | exact J.ops (by assumption) | exact J.job (by assumption)) (by decide) (c_betN (i := i) J (by assumption)) (by decide) (by decide) (Nat.le_of_ble_eq_true rfl) rfl ?_
      refine bq_iadd dX4_readyInRounds_40 ?_
      refine bq_istore (i := 5) dX4_readyInRounds_41 (by decide) ?_
      refine bq_aload_nN (i := 2) dX4_readyInRounds_43 rfl ?_
      refine bq_ifnonnullN dX4_readyInRounds_44 ?_
      refine bq_iload (i := 5) dX4_readyInRounds_47 rfl ?_
      refine bq_goto (tgt := 66) dX4_readyInRounds_49 (by decide) ?_
      exact bq_iret dX4_readyInRounds_66 rfl (by first | rfl | decide) (by unfold b_rin; rw [r_1, r_6]; exact bq_ret_i)
    · have v_6 := J.lnk8 (by first | assumption | exact J.v3 | exact J.v4 | exact J.v5 | exact J.v6 | exact J.l0 | exact J.l1 | exact J.l2 | exact J.l3 | exact J.row (by assumption) | exact J.ops (by assumption) | exact J.job (by assumption)) r_6
      refine bq_astore_n (i := 3) dX4_readyInRounds_9 (by decide) ?_
      refine bq_aload_n (i := 3) dX4_readyInRounds_10 rfl ?_
      refine bq_ifnonnull (tgt := 18) dX4_readyInRounds_11 (by decide) ?_
      refine bq_aload_n (i := 3) dX4_readyInRounds_18 rfl ?_
      refine bt_get0 dX4_readyInRounds_19 fl_X4_130 (by first | assumption | exact J.v3 | exact J.v4 | exact J.v5 | exact J.v6 | exact J.l0 | exact J.l1 | exact J.l2 | exact J.l3 | exact J.row (by assumption) | exact J.ops (by assumption) | exact J.job (by assumption)) rfl (by decide) ?_
      refine bq_aload_n (i := 3) dX4_readyInRounds_22 rfl ?_
      refine bt_get4 dX4_readyInRounds_23 fl_X4_120 (by first | assumption | exact J.v3 | exact J.v4 | exact J.v5 | exact J.v6 | exact J.l0 | exact J.l1 | exact J.l2 | exact J.l3 | exact J.row (by assumption) | exact J.ops (by assumption) | exact J.job (by assumption)) rfl (by decide) ?_
      refine bq_iadd dX4_readyInRounds_26 ?_
      refine bq_istore (i := 4) dX4_readyInRounds_27 (by decide) ?_
      refine bq_iload (i := 4) dX4_readyInRounds_29 rfl ?_
      refine bq_aload_n (i := 0) dX4_readyInRounds_31 rfl ?_
      refine bt_get3 (c' := 3) (n := 0) dX4_readyInRounds_32 fl_X4_24 (by first | assumption | exact J.v3 | exact J.v4 | exact J.v5 | exact J.v6 | exact J.l0 | exact J.l1 | exact J.l2 | exact J.l3 | exact J.row (by assumption) | exact J.ops (by assumption) | exact J.job (by assumption)) ⟨rfl, rfl, rfl⟩ (by decide) ?_
      refine bq_aload_n (i := 3) dX4_readyInRounds_35 rfl ?_
      refine bq_aload_n (i := 1) dX4_readyInRounds_36 rfl ?_
      refine bt_callVr (c := 3) (i := 0) dX4_readyInRounds_37 rfl ml_X4_110 (by first | assumption | exact J.v3 | exact J.v4 | exact J.v5 | exact J.v6 | exact J.l0 | exact J.l1 | exact J.l2 | exact J.l3 | exact J.row (by assumption) | exact J.ops (by assumption) | exact J.job (by assumption)) (by decide) (c_betS (i := i) (a := a_6) J (by assumption) (by assumption)) (by decide) (by decide) (Nat.le_of_ble_eq_true rfl) rfl ?_
      refine bq_iadd dX4_readyInRounds_40 ?_
      refine bq_istore (i := 5) dX4_readyInRounds_41 (by decide) ?_
      refine bq_aload_nN (i := 2) dX4_readyInRounds_43 rfl ?_
      refine bq_ifnonnullN dX4_readyInRounds_44 ?_
      refine bq_iload (i := 5) dX4_readyInRounds_47 rfl ?_
      refine bq_goto (tgt := 66) dX4_readyInRounds_49 (by decide) ?_
      exact bq_iret dX4_readyInRounds_66 rfl (by first | rfl | decide) (by unfold b_rin; rw [r_1, r_6]; exact bq_ret_i)
  · have v_1 := J.lnk6 (by first | assumption | exact J.v3 | exact J.v4 | exact J.v5 | exact J.v6 | exact J.l0 | exact J.l1 | exact J.l2 | exact J.l3 | exact J.row (by assumption) | exact J.ops (by assumption) | exact J.job (by assumption)) r_1
    refine bq_astore_n (i := 2) dX4_readyInRounds_4 (by decide) ?_
    refine bq_aload_n (i := 1) dX4_readyInRounds_5 rfl ?_
    refine bt_get2 (c' := 2) dX4_readyInRounds_6 fl_X4_104 (by first | assumption | exact J.v3 | exact J.v4 | exact J.v5 | exact J.v6 | exact J.l0 | exact J.l1 | exact J.l2 | exact J.l3 | exact J.row (by assumption) | exact J.ops (by assumption) | exact J.job (by assumption)) ⟨rfl, rfl⟩ (by decide) (fun r_6 => ?_) (fun a_6 r_6 => ?_)
    · refine bq_astore_nN (i := 3) dX4_readyInRounds_9 (by decide) ?_
      refine bq_aload_nN (i := 3) dX4_readyInRounds_10 rfl ?_
      refine bq_ifnonnullN dX4_readyInRounds_11 ?_
      refine bq_iconst (v := (nI 0)) dX4_readyInRounds_14 (by decide) ?_
      refine bq_goto (tgt := 27) dX4_readyInRounds_15 (by decide) ?_
      refine bq_istore (i := 4) dX4_readyInRounds_27 (by decide) ?_
      refine bq_iload (i := 4) dX4_readyInRounds_29 rfl ?_
      refine bq_aload_n (i := 0) dX4_readyInRounds_31 rfl ?_
      refine bt_get3 (c' := 3) (n := 0) dX4_readyInRounds_32 fl_X4_24 (by first | assumption | exact J.v3 | exact J.v4 | exact J.v5 | exact J.v6 | exact J.l0 | exact J.l1 | exact J.l2 | exact J.l3 | exact J.row (by assumption) | exact J.ops (by assumption) | exact J.job (by assumption)) ⟨rfl, rfl, rfl⟩ (by decide) ?_
      refine bq_aload_nN (i := 3) dX4_readyInRounds_35 rfl ?_
      refine bq_aload_n (i := 1) dX4_readyInRounds_36 rfl ?_
      refine bt_callVr (c := 3) (i := 0) dX4_readyInRounds_37 rfl ml_X4_110 (by first | assumption | exact J.v3 | exact J.v4 | exact J.v5 | exact J.v6 | exact J.l0 | exact J.l1 | exact J.l2 | exact J.l3 | exact J.row (by assumption) | exact J.ops (by assumption) | exact J.job (by assumption)) (by decide) (c_betN (i := i) J (by assumption)) (by decide) (by decide) (Nat.le_of_ble_eq_true rfl) rfl ?_
      refine bq_iadd dX4_readyInRounds_40 ?_
      refine bq_istore (i := 5) dX4_readyInRounds_41 (by decide) ?_
      refine bq_aload_n (i := 2) dX4_readyInRounds_43 rfl ?_
      refine bq_ifnonnull (tgt := 52) dX4_readyInRounds_44 (by decide) ?_
      refine bq_iload (i := 5) dX4_readyInRounds_52 rfl ?_
      refine bq_aload_n (i := 2) dX4_readyInRounds_54 rfl ?_
      refine bt_get0 dX4_readyInRounds_55 fl_X4_130 (by first | assumption | exact J.v3 | exact J.v4 | exact J.v5 | exact J.v6 | exact J.l0 | exact J.l1 | exact J.l2 | exact J.l3 | exact J.row (by assumption) | exact J.ops (by assumption) | exact J.job (by assumption)) rfl (by decide) ?_
      refine bq_aload_n (i := 2) dX4_readyInRounds_58 rfl ?_
      refine bt_get4 dX4_readyInRounds_59 fl_X4_120 (by first | assumption | exact J.v3 | exact J.v4 | exact J.v5 | exact J.v6 | exact J.l0 | exact J.l1 | exact J.l2 | exact J.l3 | exact J.row (by assumption) | exact J.ops (by assumption) | exact J.job (by assumption)) rfl (by decide) ?_
      refine bq_iadd dX4_readyInRounds_62 ?_
      refine bq_mmax dX4_readyInRounds_63 ⟨ml_X4_114, mw_max⟩ (by decide) (Nat.le_of_ble_eq_true rfl) ?_
      exact bq_iret dX4_readyInRounds_66 rfl (by first | rfl | decide) (by unfold b_rin; rw [r_1, r_6]; exact bq_ret_i)
    · have v_6 := J.lnk8 (by first | assumption | exact J.v3 | exact J.v4 | exact J.v5 | exact J.v6 | exact J.l0 | exact J.l1 | exact J.l2 | exact J.l3 | exact J.row (by assumption) | exact J.ops (by assumption) | exact J.job (by assumption)) r_6
      refine bq_astore_n (i := 3) dX4_readyInRounds_9 (by decide) ?_
      refine bq_aload_n (i := 3) dX4_readyInRounds_10 rfl ?_
      refine bq_ifnonnull (tgt := 18) dX4_readyInRounds_11 (by decide) ?_
      refine bq_aload_n (i := 3) dX4_readyInRounds_18 rfl ?_
      refine bt_get0 dX4_readyInRounds_19 fl_X4_130 (by first | assumption | exact J.v3 | exact J.v4 | exact J.v5 | exact J.v6 | exact J.l0 | exact J.l1 | exact J.l2 | exact J.l3 | exact J.row (by assumption) | exact J.ops (by assumption) | exact J.job (by assumption)) rfl (by decide) ?_
      refine bq_aload_n (i := 3) dX4_readyInRounds_22 rfl ?_
      refine bt_get4 dX4_readyInRounds_23 fl_X4_120 (by first | assumption | exact J.v3 | exact J.v4 | exact J.v5 | exact J.v6 | exact J.l0 | exact J.l1 | exact J.l2 | exact J.l3 | exact J.row (by assumption) | exact J.ops (by assumption) | exact J.job (by assumption)) rfl (by decide) ?_
      refine bq_iadd dX4_readyInRounds_26 ?_
      refine bq_istore (i := 4) dX4_readyInRounds_27 (by decide) ?_
      refine bq_iload (i := 4) dX4_readyInRounds_29 rfl ?_
      refine bq_aload_n (i := 0) dX4_readyInRounds_31 rfl ?_
      refine bt_get3 (c' := 3) (n := 0) dX4_readyInRounds_32 fl_X4_24 (by first | assumption | exact J.v3 | exact J.v4 | exact J.v5 | exact J.v6 | exact J.l0 | exact J.l1 | exact J.l2 | exact J.l3 | exact J.row (by assumption) | exact J.ops (by assumption) | exact J.job (by assumption)) ⟨rfl, rfl, rfl⟩ (by decide) ?_
      refine bq_aload_n (i := 3) dX4_readyInRounds_35 rfl ?_
      refine bq_aload_n (i := 1) dX4_readyInRounds_36 rfl ?_
      refine bt_callVr (c := 3) (i := 0) dX4_readyInRounds_37 rfl ml_X4_110 (by first | assumption | exact J.v3 | exact J.v4 | exact J.v5 | exact J.v6 | exact J.l0 | exact J.l1 | exact J.l2 | exact J.l3 | exact J.row (by assumption) | exact J.ops (by assumption) | exact J.job (by assumption)) (by decide) (c_betS (i := i) (a := a_6) J (by assumption) (by assumption)) (by decide) (by decide) (Nat.le_of_ble_eq_true rfl) rfl ?_
      refine bq_iadd dX4_readyInRounds_40 ?_
      refine bq_istore (i := 5) dX4_readyInRounds_41 (by decide) ?_
      refine bq_aload_n (i := 2) dX4_readyInRounds_43 rfl ?_
      refine bq_ifnonnull (tgt := 52) dX4_readyInRounds_44 (by decide) ?_
      refine bq_iload (i := 5) dX4_readyInRounds_52 rfl ?_
      refine bq_aload_n (i := 2) dX4_readyInRounds_54 rfl ?_
      refine bt_get0 dX4_readyInRounds_55 fl_X4_130 (by first | assumption | exact J.v3 | exact J.v4 | exact J.v5 | exact J.v6 | exact J.l0 | exact J.l1 | exact J.l2 | exact J.l3 | exact J.row (by assumption) | exact J.ops (by assumption) | exact J.job (by assumption)) rfl (by decide) ?_
      refine bq_aload_n (i := 2) dX4_readyInRounds_58 rfl ?_
      refine bt_get4 dX4_readyInRounds_59 fl_X4_120 (by first | assumption | exact J.v3 | exact J.v4 | exact J.v5 | exact J.v6 | exact J.l0 | exact J.l1 | exact J.l2 | exact J.l3 | exact J.row (by assumption) | exact J.ops (by assumption) | exact J.job (by assumption)) rfl (by decide) ?_
      refine bq_iadd dX4_readyInRounds_62 ?_
      refine bq_mmax dX4_readyInRounds_63 ⟨ml_X4_114, mw_max⟩ (by decide) (Nat.le_of_ble_eq_true rfl) ?_
      exact bq_iret dX4_readyInRounds_66 rfl (by first | rfl | decide) (by unfold b_rin; rw [r_1, r_6]; exact bq_ret_i)
set_option maxRecDepth 100000 in
set_option maxHeartbeats 400000 in
theorem c_prow_l {G : bp_X} {α : bt_A} {σ : bt_X} {m : Nat} (hV : bt_V α 1 m) {r : Int32 × bt_X} (os : List Nat) : ∀ (x : bt_X) (j : Nat) (mv : Int32), bt_J α σ x → (x.2.2 (4 + m)).length ≤ 33 → j ≤ 33 → (x.2.2 (4 + m)).drop j = os → narrow .boolean (.int mv) = .int mv → b_prow σ m x mv os = r →
    bq_W G mX4_putRowLater 3 4 [(0, .ref (bt_ad α 4 0)), (1, .ref (bt_ad α 1 m)), (2, .int mv), (3, .int (nI j))] [] (bt α σ x) (bq_ret (some (.int r.1)) (bt α σ r.2)) := by
  induction os with
  | nil =>
    intro x j mv J hlen hj hd hb hr
    have hm := J.m4 hV
    unfold b_prow at hr
    subst hr
    refine bq_iload_n (i := 3) dX4_putRowLater_4 rfl ?_
    refine bq_aload_n (i := 1) dX4_putRowLater_5 rfl ?_
    refine bt_get3 (c' := 7) (n := (4 + m)) dX4_putRowLater_6 fl_X4_40 (by first | assumption | exact J.v3 | exact J.v4 | exact J.v5 | exact J.v6 | exact J.l0 | exact J.l1 | exact J.l2 | exact J.l3 | exact J.row (by assumption) | exact J.ops (by assumption) | exact J.job (by assumption)) ⟨rfl, rfl, rfl⟩ (by decide) ?_
    refine bt_size dX4_putRowLater_9 ml_X4_45 (by first | assumption | exact J.v3 | exact J.v4 | exact J.v5 | exact J.v6 | exact J.l0 | exact J.l1 | exact J.l2 | exact J.l3 | exact J.row (by assumption) | exact J.ops (by assumption) | exact J.job (by assumption)) (bt_lv (bt_sl_row (by assumption))) (by decide) (Nat.le_of_ble_eq_true rfl) ?_
    refine bq_icmp_ge (tgt := 70) dX4_putRowLater_12 (by decide) (fun c_12 => ?_) (fun z9_ => absurd (show nI (x.2.2 (4 + m)).length ≤ nI j from nI_le (b_drop0 hd) (by omega)) z9_)
    refine bq_iload_n (i := 2) dX4_putRowLater_70 rfl ?_
    exact bq_iret dX4_putRowLater_71 rfl hb bq_ret_i
  | cons i os ih =>
    intro x j mv J hlen hj hd hb hr
    have hm := J.m4 hV
    obtain ⟨hi, hd1, hj1⟩ := b_dropc hd
    unfold b_prow at hr
    refine bq_iload_n (i := 3) dX4_putRowLater_4 rfl ?_
    refine bq_aload_n (i := 1) dX4_putRowLater_5 rfl ?_
    refine bt_get3 (c' := 7) (n := (4 + m)) dX4_putRowLater_6 fl_X4_40 (by first | assumption | exact J.v3 | exact J.v4 | exact J.v5 | exact J.v6 | exact J.l0 | exact J.l1 | exact J.l2 | exact J.l3 | exact J.row (by assumption) | exact J.ops (by assumption) | exact J.job (by assumption)) ⟨rfl, rfl, rfl⟩ (by decide) ?_
    refine bt_size dX4_putRowLater_9 ml_X4_45 (by first | assumption | exact J.v3 | exact J.v4 | exact J.v5 | exact J.v6 | exact J.l0 | exact J.l1 | exact J.l2 | exact J.l3 | exact J.row (by assumption) | exact J.ops (by assumption) | exact J.job (by assumption)) (bt_lv (bt_sl_row (by assumption))) (by decide) (Nat.le_of_ble_eq_true rfl) ?_
    refine bq_icmp_ge (tgt := 70) dX4_putRowLater_12 (by decide) (fun z9_ => absurd z9_ (show ¬ nI (x.2.2 (4 + m)).length ≤ nI j from nI_ge hj1 (by omega))) (fun c_12 => ?_)
    refine bq_aload_n (i := 1) dX4_putRowLater_15 rfl ?_
    refine bt_get3 (c' := 7) (n := (4 + m)) dX4_putRowLater_16 fl_X4_40 (by first | assumption | exact J.v3 | exact J.v4 | exact J.v5 | exact J.v6 | exact J.l0 | exact J.l1 | exact J.l2 | exact J.l3 | exact J.row (by assumption) | exact J.ops (by assumption) | exact J.job (by assumption)) ⟨rfl, rfl, rfl⟩ (by decide) ?_
    refine bq_iload_n (i := 3) dX4_putRowLater_19 rfl ?_
    refine bt_geti (j := j) (y := i) (c' := 2) dX4_putRowLater_20 ml_X4_72 (by first | assumption | exact J.v3 | exact J.v4 | exact J.v5 | exact J.v6 | exact J.l0 | exact J.l1 | exact J.l2 | exact J.l3 | exact J.row (by assumption) | exact J.ops (by assumption) | exact J.job (by assumption)) (bt_lv (bt_sl_row (by assumption))) rfl hi bt_lc_row (by decide) (Nat.le_of_ble_eq_true rfl) (fun v_20 => ?_)
    refine bt_cast (c := 2) dX4_putRowLater_23 rfl cl_X4_35 (by first | assumption | exact J.v3 | exact J.v4 | exact J.v5 | exact J.v6 | exact J.l0 | exact J.l1 | exact J.l2 | exact J.l3 | exact J.row (by assumption) | exact J.ops (by assumption) | exact J.job (by assumption)) (by decide) ?_
    refine bq_astore (i := 4) dX4_putRowLater_26 (by decide) ?_
    refine bq_aload_n (i := 1) dX4_putRowLater_28 rfl ?_
    refine bq_aload_n (i := 0) dX4_putRowLater_29 rfl ?_
    refine bq_aload (i := 4) dX4_putRowLater_30 rfl ?_
    refine bt_callVr (c := 4) (i := 0) dX4_putRowLater_32 rfl ml_X4_137 (by first | assumption | exact J.v3 | exact J.v4 | exact J.v5 | exact J.v6 | exact J.l0 | exact J.l1 | exact J.l2 | exact J.l3 | exact J.row (by assumption) | exact J.ops (by assumption) | exact J.job (by assumption)) (by decide) (c_rin J v_20) (by decide) (by decide) (Nat.le_of_ble_eq_true rfl) rfl ?_
    refine bq_aload (i := 4) dX4_putRowLater_35 rfl ?_
    refine bt_get4 dX4_putRowLater_37 fl_X4_120 (by first | assumption | exact J.v3 | exact J.v4 | exact J.v5 | exact J.v6 | exact J.l0 | exact J.l1 | exact J.l2 | exact J.l3 | exact J.row (by assumption) | exact J.ops (by assumption) | exact J.job (by assumption)) rfl (by decide) ?_
    refine bt_callVr (c := 1) (i := m) dX4_putRowLater_40 rfl ml_X4_123 (by first | assumption | exact J.v3 | exact J.v4 | exact J.v5 | exact J.v6 | exact J.l0 | exact J.l1 | exact J.l2 | exact J.l3 | exact J.row (by assumption) | exact J.ops (by assumption) | exact J.job (by assumption)) (by decide) (c_ls hV) (by decide) (by decide) (Nat.le_of_ble_eq_true rfl) rfl ?_
    refine bq_istore (i := 5) dX4_putRowLater_43 (by decide) ?_
    refine bq_iload (i := 5) dX4_putRowLater_45 rfl ?_
    refine bq_aload (i := 4) dX4_putRowLater_47 rfl ?_
    refine bt_get0 dX4_putRowLater_49 fl_X4_130 (by first | assumption | exact J.v3 | exact J.v4 | exact J.v5 | exact J.v6 | exact J.l0 | exact J.l1 | exact J.l2 | exact J.l3 | exact J.row (by assumption) | exact J.ops (by assumption) | exact J.job (by assumption)) rfl (by decide) ?_
    refine bq_icmp_le (tgt := 64) dX4_putRowLater_52 (by decide) (fun c_52 => ?_) (fun c_52 => ?_)
    · rw [if_pos c_52] at hr
      refine bq_iinc dX4_putRowLater_64 rfl (by decide) (by first | exact bp_inc _ | rfl) ?_
      refine bq_goto (tgt := 4) dX4_putRowLater_67 (by decide) ?_
      refine bq_lvs (lv' := [(0, .ref (bt_ad α 4 0)), (1, .ref (bt_ad α 1 m)), (2, .int _), (3, .int (nI (j + 1)))]) ⟨rfl, rfl, rfl, rfl, trivial⟩ ?_
      exact ih _ (j + 1) _ (by first | exact J | exact J.gs) hlen (by omega) hd1 (by first | exact hb | rfl) hr
    · rw [if_neg c_52] at hr
      refine bq_aload (i := 4) dX4_putRowLater_55 rfl ?_
      refine bq_iload (i := 5) dX4_putRowLater_57 rfl ?_
      refine bt_put0 dX4_putRowLater_59 fl_X4_130 (by first | assumption | exact J.v3 | exact J.v4 | exact J.v5 | exact J.v6 | exact J.l0 | exact J.l1 | exact J.l2 | exact J.l3 | exact J.row (by assumption) | exact J.ops (by assumption) | exact J.job (by assumption)) rfl (by decide) (by first | rfl | decide) (by first | rfl | decide) ?_
      refine bq_iconst (v := (nI 1)) dX4_putRowLater_62 (by decide) ?_
      refine bq_istore_n (i := 2) dX4_putRowLater_63 (by decide) ?_
      refine bq_iinc dX4_putRowLater_64 rfl (by decide) (by first | exact bp_inc _ | rfl) ?_
      refine bq_goto (tgt := 4) dX4_putRowLater_67 (by decide) ?_
      refine bq_lvs (lv' := [(0, .ref (bt_ad α 4 0)), (1, .ref (bt_ad α 1 m)), (2, .int _), (3, .int (nI (j + 1)))]) ⟨rfl, rfl, rfl, rfl, trivial⟩ ?_
      exact ih _ (j + 1) _ (by first | exact J | exact J.gs) hlen (by omega) hd1 (by first | exact hb | rfl) hr
set_option maxRecDepth 100000 in
set_option maxHeartbeats 400000 in
theorem c_prow {G : bp_X} {α : bt_A} {σ x : bt_X} {m : Nat} (J : bt_J α σ x) (hV : bt_V α 1 m) (hlen : (x.2.2 (4 + m)).length ≤ 33) : bq_S G mX4_putRowLater 3 [.ref (bt_ad α 4 0), .ref (bt_ad α 1 m)] (bt α σ x) (bq_ret (some (.int (b_prow σ m x (nI 0) (x.2.2 (4 + m))).1)) (bt α σ (b_prow σ m x (nI 0) (x.2.2 (4 + m))).2)) := by
  refine bq_ofW (by decide +kernel) rfl (Nat.le_of_ble_eq_true rfl) ?_
  refine bq_iconst (v := (nI 0)) dX4_putRowLater_0 (by decide) ?_
  refine bq_istore_n (i := 2) dX4_putRowLater_1 (by decide) ?_
  refine bq_iconst (v := (nI 0)) dX4_putRowLater_2 (by decide) ?_
  refine bq_istore_n (i := 3) dX4_putRowLater_3 (by decide) ?_
  refine bq_lvs (lv' := [(0, .ref (bt_ad α 4 0)), (1, .ref (bt_ad α 1 m)), (2, .int (nI 0)), (3, .int (nI 0))]) ⟨rfl, rfl, rfl, rfl, trivial⟩ ?_
  exact c_prow_l hV _ x 0 _ J hlen (by omega) rfl rfl rfl
set_option maxRecDepth 100000 in
set_option maxHeartbeats 400000 in
theorem c_prs_l {G : bp_X} {α : bt_A} {σ : bt_X} {Φ : bp_O → bq_O → Prop} {rd : Int32} (h0 : (σ.2.2 0).length ≤ 4) (L : List Nat) : ∀ (x : bt_X) (j : Nat) (mv : Int32), bt_J α σ x → (∀ m ∈ σ.2.2 0, (x.2.2 (4 + m)).length ≤ 33) → j ≤ 5 → (σ.2.2 0).drop j = L →
    bq_W G mX4_putLaterInRounds 4 89 [(0, .ref (bt_ad α 4 0)), (1, .int (b_prows σ x mv L).1), (2, .int rd)] [] (bt α σ (b_prows σ x mv L).2) Φ → bq_W G mX4_putLaterInRounds 4 52 [(0, .ref (bt_ad α 4 0)), (1, .int mv), (2, .int rd), (3, .int (nI j))] [] (bt α σ x) Φ := by
  induction L with
  | nil =>
    intro x j mv J hlen hj hd kk
    refine bq_iload_n (i := 3) dX4_putLaterInRounds_52 rfl ?_
    refine bq_aload_n (i := 0) dX4_putLaterInRounds_53 rfl ?_
    refine bt_get3 (c' := 7) (n := 0) dX4_putLaterInRounds_54 fl_X4_12 (by first | assumption | exact J.v3 | exact J.v4 | exact J.v5 | exact J.v6 | exact J.l0 | exact J.l1 | exact J.l2 | exact J.l3 | exact J.row (by assumption) | exact J.ops (by assumption) | exact J.job (by assumption)) ⟨rfl, rfl, rfl⟩ (by decide) ?_
    refine bt_size dX4_putLaterInRounds_57 ml_X4_45 (by first | assumption | exact J.v3 | exact J.v4 | exact J.v5 | exact J.v6 | exact J.l0 | exact J.l1 | exact J.l2 | exact J.l3 | exact J.row (by assumption) | exact J.ops (by assumption) | exact J.job (by assumption)) rfl (by decide) (Nat.le_of_ble_eq_true rfl) ?_
    refine bq_icmp_ge (tgt := 89) dX4_putLaterInRounds_60 (by decide) (fun c_60 => ?_) (fun z9_ => absurd (show nI (σ.2.2 0).length ≤ nI j from nI_le (b_drop0 hd) (by omega)) z9_)
    refine bq_lvs (lv' := [(0, .ref (bt_ad α 4 0)), (1, .int mv), (2, .int rd)]) ⟨rfl, rfl, rfl, trivial⟩ ?_
    exact kk
  | cons m L ih =>
    intro x j mv J hlen hj hd kk
    obtain ⟨hy, hd1, hj1⟩ := b_dropc hd
    have hmem : m ∈ σ.2.2 0 := List.mem_of_getElem? hy
    unfold b_prows at kk
    have e2 := b_prow_2 (σ := σ) (m := m) (x.2.2 (4 + m)) x (nI 0)
    refine bq_iload_n (i := 3) dX4_putLaterInRounds_52 rfl ?_
    refine bq_aload_n (i := 0) dX4_putLaterInRounds_53 rfl ?_
    refine bt_get3 (c' := 7) (n := 0) dX4_putLaterInRounds_54 fl_X4_12 (by first | assumption | exact J.v3 | exact J.v4 | exact J.v5 | exact J.v6 | exact J.l0 | exact J.l1 | exact J.l2 | exact J.l3 | exact J.row (by assumption) | exact J.ops (by assumption) | exact J.job (by assumption)) ⟨rfl, rfl, rfl⟩ (by decide) ?_
    refine bt_size dX4_putLaterInRounds_57 ml_X4_45 (by first | assumption | exact J.v3 | exact J.v4 | exact J.v5 | exact J.v6 | exact J.l0 | exact J.l1 | exact J.l2 | exact J.l3 | exact J.row (by assumption) | exact J.ops (by assumption) | exact J.job (by assumption)) rfl (by decide) (Nat.le_of_ble_eq_true rfl) ?_
    refine bq_icmp_ge (tgt := 89) dX4_putLaterInRounds_60 (by decide) (fun z9_ => absurd z9_ (show ¬ nI (σ.2.2 0).length ≤ nI j from nI_ge hj1 (by omega))) (fun c_60 => ?_)
    refine bq_aload_n (i := 0) dX4_putLaterInRounds_63 rfl ?_
    refine bq_aload_n (i := 0) dX4_putLaterInRounds_64 rfl ?_
    refine bt_get3 (c' := 7) (n := 0) dX4_putLaterInRounds_65 fl_X4_12 (by first | assumption | exact J.v3 | exact J.v4 | exact J.v5 | exact J.v6 | exact J.l0 | exact J.l1 | exact J.l2 | exact J.l3 | exact J.row (by assumption) | exact J.ops (by assumption) | exact J.job (by assumption)) ⟨rfl, rfl, rfl⟩ (by decide) ?_
    refine bq_iload_n (i := 3) dX4_putLaterInRounds_68 rfl ?_
    refine bt_geti (j := j) (y := m) (c' := 1) dX4_putLaterInRounds_69 ml_X4_72 (by first | assumption | exact J.v3 | exact J.v4 | exact J.v5 | exact J.v6 | exact J.l0 | exact J.l1 | exact J.l2 | exact J.l3 | exact J.row (by assumption) | exact J.ops (by assumption) | exact J.job (by assumption)) rfl rfl hy rfl (by decide) (Nat.le_of_ble_eq_true rfl) (fun v_69 => ?_)
    refine bt_cast (c := 1) dX4_putLaterInRounds_72 rfl cl_X4_41 (by first | assumption | exact J.v3 | exact J.v4 | exact J.v5 | exact J.v6 | exact J.l0 | exact J.l1 | exact J.l2 | exact J.l3 | exact J.row (by assumption) | exact J.ops (by assumption) | exact J.job (by assumption)) (by decide) ?_
    refine bt_callVr (c := 4) (i := 0) dX4_putLaterInRounds_75 rfl ml_X4_133 (by first | assumption | exact J.v3 | exact J.v4 | exact J.v5 | exact J.v6 | exact J.l0 | exact J.l1 | exact J.l2 | exact J.l3 | exact J.row (by assumption) | exact J.ops (by assumption) | exact J.job (by assumption)) (by decide) (c_prow J v_69 (hlen m hmem)) (by decide) (by decide) (Nat.le_of_ble_eq_true rfl) rfl ?_
    refine bq_if_eq (tgt := 83) dX4_putLaterInRounds_78 (by decide) (fun c_78 => ?_) (fun c_78 => ?_)
    · rw [if_pos c_78] at kk
      refine bq_iinc dX4_putLaterInRounds_83 rfl (by decide) (by first | exact bp_inc _ | rfl) ?_
      refine bq_goto (tgt := 52) dX4_putLaterInRounds_86 (by decide) ?_
      refine bq_lvs (lv' := [(0, .ref (bt_ad α 4 0)), (1, .int _), (2, .int rd), (3, .int (nI (j + 1)))]) ⟨rfl, rfl, rfl, rfl, trivial⟩ ?_
      exact ih _ (j + 1) _ (J.any (by rw [e2])) (by rw [e2]; exact hlen) (by omega) hd1 kk
    · rw [if_neg c_78] at kk
      refine bq_iconst (v := (nI 1)) dX4_putLaterInRounds_81 (by decide) ?_
      refine bq_istore_n (i := 1) dX4_putLaterInRounds_82 (by decide) ?_
      refine bq_iinc dX4_putLaterInRounds_83 rfl (by decide) (by first | exact bp_inc _ | rfl) ?_
      refine bq_goto (tgt := 52) dX4_putLaterInRounds_86 (by decide) ?_
      refine bq_lvs (lv' := [(0, .ref (bt_ad α 4 0)), (1, .int _), (2, .int rd), (3, .int (nI (j + 1)))]) ⟨rfl, rfl, rfl, rfl, trivial⟩ ?_
      exact ih _ (j + 1) _ (J.any (by rw [e2])) (by rw [e2]; exact hlen) (by omega) hd1 kk
set_option maxRecDepth 100000 in
set_option maxHeartbeats 400000 in
theorem c_pr_l {G : bp_X} {α : bt_A} {σ : bt_X} (h0 : (σ.2.2 0).length ≤ 4) : ∀ (n r : Nat) (mv : Int32) (x : bt_X), r + n = 33 → bt_J α σ x → (∀ m ∈ σ.2.2 0, (x.2.2 (4 + m)).length ≤ 33) →
    bq_W G mX4_putLaterInRounds 4 38 [(0, .ref (bt_ad α 4 0)), (1, .int mv), (2, .int (nI r))] [] (bt α σ x) (bq_ret none (bt α σ (b_pr σ n mv x))) := by
  intro n
  induction n with
  | zero =>
    intro r mv x hr J hlen
    unfold b_pr
    refine bq_iload_n (i := 1) dX4_putLaterInRounds_38 rfl ?_
    refine bq_if_eq (tgt := 95) dX4_putLaterInRounds_39 (by decide) (fun c_39 => ?_) (fun c_39 => ?_)
    · exact bq_vret dX4_putLaterInRounds_95 rfl bq_ret_i
    · refine bq_iload_n (i := 2) dX4_putLaterInRounds_42 rfl ?_
      refine bq_bipush (v := (nI 32)) dX4_putLaterInRounds_43 (by decide) ?_
      refine bq_icmp_gt (tgt := 95) dX4_putLaterInRounds_45 (by decide) (fun c_45 => ?_) (fun z9_ => absurd (show nI 32 < nI r from nI_lt (by omega) (by omega)) z9_)
      exact bq_vret dX4_putLaterInRounds_95 rfl bq_ret_i
  | succ n ih =>
    intro r mv x hr J hlen
    have e2 := b_prows_2 (σ := σ) (σ.2.2 0) x (nI 0)
    unfold b_pr
    refine bq_iload_n (i := 1) dX4_putLaterInRounds_38 rfl ?_
    refine bq_if_eq (tgt := 95) dX4_putLaterInRounds_39 (by decide) (fun c_39 => ?_) (fun c_39 => ?_)
    · rw [if_pos c_39]
      exact bq_vret dX4_putLaterInRounds_95 rfl bq_ret_i
    · rw [if_neg c_39]
      refine bq_iload_n (i := 2) dX4_putLaterInRounds_42 rfl ?_
      refine bq_bipush (v := (nI 32)) dX4_putLaterInRounds_43 (by decide) ?_
      refine bq_icmp_gt (tgt := 95) dX4_putLaterInRounds_45 (by decide) (fun z9_ => absurd z9_ (show ¬ nI 32 < nI r from nI_nlt (by omega) (by omega))) (fun c_45 => ?_)
      refine bq_iconst (v := (nI 0)) dX4_putLaterInRounds_48 (by decide) ?_
      refine bq_istore_n (i := 1) dX4_putLaterInRounds_49 (by decide) ?_
      refine bq_iconst (v := (nI 0)) dX4_putLaterInRounds_50 (by decide) ?_
      refine bq_istore_n (i := 3) dX4_putLaterInRounds_51 (by decide) ?_
      refine bq_lvs (lv' := [(0, .ref (bt_ad α 4 0)), (1, .int (nI 0)), (2, .int (nI r)), (3, .int (nI 0))]) ⟨rfl, rfl, rfl, rfl, trivial⟩ ?_
      refine c_prs_l h0 (σ.2.2 0) x 0 _ J hlen (by omega) rfl ?_
      refine bq_iinc dX4_putLaterInRounds_89 rfl (by decide) (by first | exact bp_inc _ | rfl) ?_
      refine bq_goto (tgt := 38) dX4_putLaterInRounds_92 (by decide) ?_
      refine bq_lvs (lv' := [(0, .ref (bt_ad α 4 0)), (1, .int _), (2, .int (nI (r + 1)))]) ⟨rfl, rfl, rfl, trivial⟩ ?_
      exact ih (r + 1) _ _ (by omega) (J.any (by rw [e2])) (by rw [e2]; exact hlen)
set_option maxRecDepth 100000 in
set_option maxHeartbeats 400000 in
theorem c_rs0_l {G : bp_X} {α : bt_A} {σ : bt_X} {Φ : bp_O → bq_O → Prop} (os : List Nat) : ∀ (x : bt_X) (j : Nat), bt_J α σ x → (x.2.2 2).length ≤ 33 → j ≤ 33 → (x.2.2 2).drop j = os →
    bq_W G mX4_putLaterInRounds 4 34 [(0, .ref (bt_ad α 4 0))] [] (bt α σ (b_rs0 x os)) Φ → bq_W G mX4_putLaterInRounds 4 2 [(0, .ref (bt_ad α 4 0)), (1, .int (nI j))] [] (bt α σ x) Φ := by
  induction os with
  | nil =>
    intro x j J hlen hj hd kk
    refine bq_iload_n (i := 1) dX4_putLaterInRounds_2 rfl ?_
    refine bq_aload_n (i := 0) dX4_putLaterInRounds_3 rfl ?_
    refine bt_get3 (c' := 7) (n := 2) dX4_putLaterInRounds_4 fl_X4_28 (by first | assumption | exact J.v3 | exact J.v4 | exact J.v5 | exact J.v6 | exact J.l0 | exact J.l1 | exact J.l2 | exact J.l3 | exact J.row (by assumption) | exact J.ops (by assumption) | exact J.job (by assumption)) ⟨rfl, rfl, rfl⟩ (by decide) ?_
    refine bt_size dX4_putLaterInRounds_7 ml_X4_45 (by first | assumption | exact J.v3 | exact J.v4 | exact J.v5 | exact J.v6 | exact J.l0 | exact J.l1 | exact J.l2 | exact J.l3 | exact J.row (by assumption) | exact J.ops (by assumption) | exact J.job (by assumption)) rfl (by decide) (Nat.le_of_ble_eq_true rfl) ?_
    refine bq_icmp_ge (tgt := 34) dX4_putLaterInRounds_10 (by decide) (fun c_10 => ?_) (fun z9_ => absurd (show nI (x.2.2 2).length ≤ nI j from nI_le (b_drop0 hd) (by omega)) z9_)
    refine bq_lvs (lv' := [(0, .ref (bt_ad α 4 0))]) ⟨rfl, trivial⟩ ?_
    exact kk
  | cons i os ih =>
    intro x j J hlen hj hd kk
    obtain ⟨hi, hd1, hj1⟩ := b_dropc hd
    refine bq_iload_n (i := 1) dX4_putLaterInRounds_2 rfl ?_
    refine bq_aload_n (i := 0) dX4_putLaterInRounds_3 rfl ?_
    refine bt_get3 (c' := 7) (n := 2) dX4_putLaterInRounds_4 fl_X4_28 (by first | assumption | exact J.v3 | exact J.v4 | exact J.v5 | exact J.v6 | exact J.l0 | exact J.l1 | exact J.l2 | exact J.l3 | exact J.row (by assumption) | exact J.ops (by assumption) | exact J.job (by assumption)) ⟨rfl, rfl, rfl⟩ (by decide) ?_
    refine bt_size dX4_putLaterInRounds_7 ml_X4_45 (by first | assumption | exact J.v3 | exact J.v4 | exact J.v5 | exact J.v6 | exact J.l0 | exact J.l1 | exact J.l2 | exact J.l3 | exact J.row (by assumption) | exact J.ops (by assumption) | exact J.job (by assumption)) rfl (by decide) (Nat.le_of_ble_eq_true rfl) ?_
    refine bq_icmp_ge (tgt := 34) dX4_putLaterInRounds_10 (by decide) (fun z9_ => absurd z9_ (show ¬ nI (x.2.2 2).length ≤ nI j from nI_ge hj1 (by omega))) (fun c_10 => ?_)
    refine bq_aload_n (i := 0) dX4_putLaterInRounds_13 rfl ?_
    refine bt_get3 (c' := 7) (n := 2) dX4_putLaterInRounds_14 fl_X4_28 (by first | assumption | exact J.v3 | exact J.v4 | exact J.v5 | exact J.v6 | exact J.l0 | exact J.l1 | exact J.l2 | exact J.l3 | exact J.row (by assumption) | exact J.ops (by assumption) | exact J.job (by assumption)) ⟨rfl, rfl, rfl⟩ (by decide) ?_
    refine bq_iload_n (i := 1) dX4_putLaterInRounds_17 rfl ?_
    refine bt_geti (j := j) (y := i) (c' := 2) dX4_putLaterInRounds_18 ml_X4_72 (by first | assumption | exact J.v3 | exact J.v4 | exact J.v5 | exact J.v6 | exact J.l0 | exact J.l1 | exact J.l2 | exact J.l3 | exact J.row (by assumption) | exact J.ops (by assumption) | exact J.job (by assumption)) rfl rfl hi rfl (by decide) (Nat.le_of_ble_eq_true rfl) (fun v_18 => ?_)
    refine bt_cast (c := 2) dX4_putLaterInRounds_21 rfl cl_X4_35 (by first | assumption | exact J.v3 | exact J.v4 | exact J.v5 | exact J.v6 | exact J.l0 | exact J.l1 | exact J.l2 | exact J.l3 | exact J.row (by assumption) | exact J.ops (by assumption) | exact J.job (by assumption)) (by decide) ?_
    refine bq_iconst (v := (nI 0)) dX4_putLaterInRounds_24 (by decide) ?_
    refine bt_put0 dX4_putLaterInRounds_25 fl_X4_130 (by first | assumption | exact J.v3 | exact J.v4 | exact J.v5 | exact J.v6 | exact J.l0 | exact J.l1 | exact J.l2 | exact J.l3 | exact J.row (by assumption) | exact J.ops (by assumption) | exact J.job (by assumption)) rfl (by decide) (by first | rfl | decide) (by first | rfl | decide) ?_
    refine bq_iinc dX4_putLaterInRounds_28 rfl (by decide) (by first | exact bp_inc _ | rfl) ?_
    refine bq_goto (tgt := 2) dX4_putLaterInRounds_31 (by decide) ?_
    refine bq_lvs (lv' := [(0, .ref (bt_ad α 4 0)), (1, .int (nI (j + 1)))]) ⟨rfl, rfl, trivial⟩ ?_
    exact ih _ (j + 1) J.gs hlen (by omega) hd1 kk
set_option maxRecDepth 100000 in
set_option maxHeartbeats 400000 in
theorem c_later {G : bp_X} {α : bt_A} {σ x : bt_X} (J : bt_J α σ x) (h0 : (σ.2.2 0).length ≤ 4) (hlen : ∀ m ∈ σ.2.2 0, (x.2.2 (4 + m)).length ≤ 33) (ho : (x.2.2 2).length ≤ 33) : bq_S G mX4_putLaterInRounds 4 [.ref (bt_ad α 4 0)] (bt α σ x) (bq_ret none (bt α σ (b_later σ x))) := by
  refine bq_ofW (by decide +kernel) rfl (Nat.le_of_ble_eq_true rfl) ?_
  refine bq_iconst (v := (nI 0)) dX4_putLaterInRounds_0 (by decide) ?_
  refine bq_istore_n (i := 1) dX4_putLaterInRounds_1 (by decide) ?_
  refine bq_lvs (lv' := [(0, .ref (bt_ad α 4 0)), (1, .int (nI 0))]) ⟨rfl, rfl, trivial⟩ ?_
  refine c_rs0_l _ x 0 J ho (by omega) rfl ?_
  refine bq_iconst (v := (nI 1)) dX4_putLaterInRounds_34 (by decide) ?_
  refine bq_istore_n (i := 1) dX4_putLaterInRounds_35 (by decide) ?_
  refine bq_iconst (v := (nI 0)) dX4_putLaterInRounds_36 (by decide) ?_
  refine bq_istore_n (i := 2) dX4_putLaterInRounds_37 (by decide) ?_
  refine bq_lvs (lv' := [(0, .ref (bt_ad α 4 0)), (1, .int (nI 1)), (2, .int (nI 0))]) ⟨rfl, rfl, rfl, trivial⟩ ?_
  exact c_pr_l h0 33 0 _ _ rfl (J.any (by rw [b_rs0_2])) (by rw [b_rs0_2]; exact hlen)
/-! ===== latest starts ===== -/
def b_mn (f : Int32) (g : Option Int32) : Int32 := match g with
  | none => f
  | some y => if y < f then y else f
def b_lfin (σ x : bt_X) (i : Nat) : Int32 := b_mn (b_mn (x.1 4 0 5) ((σ.2.1 2 i 7).map fun a => x.1 2 a 13)) ((x.2.1 2 i 9).map fun b => x.1 2 b 13 - b_bet σ (some i) b)
def b_lat1 (σ x : bt_X) (i : Nat) : bt_X := bt_gs x 2 i 13 (b_gs σ (b_m σ i) (b_lfin σ x i - σ.1 2 i 3) (σ.1 2 i 3))
def b_latL (σ : bt_X) : bt_X → List Nat → bt_X
  | x, [] => x
  | x, i :: os => b_latL σ (b_lat1 σ x i) os
def b_lat (σ x : bt_X) : bt_X := b_latL σ x (x.2.2 2).reverse
theorem b_latL_2 {σ : bt_X} : ∀ (os : List Nat) (x : bt_X), (b_latL σ x os).2 = x.2 := by
  intro os
  induction os with
  | nil => intro x; rfl
  | cons i os ih => intro x; exact ih _
set_option maxRecDepth 100000 in
set_option maxHeartbeats 400000 in
theorem c_lfin {G : bp_X} {α : bt_A} {σ x : bt_X} {i : Nat} (J : bt_J α σ x) (hO : bt_V α 2 i) : bq_S G mX4_latestFinish 1 [.ref (bt_ad α 4 0), .ref (bt_ad α 2 i)] (bt α σ x) (bq_ret (some (.int (b_lfin σ x i))) (bt α σ x)) := by
  refine bq_ofW (by decide +kernel) rfl (Nat.le_of_ble_eq_true rfl) ?_
  refine bq_aload_n (i := 1) dX4_latestFinish_0 rfl ?_
  refine bt_get5 (c' := 2) dX4_latestFinish_1 fl_X4_150 (by first | assumption | exact J.v3 | exact J.v4 | exact J.v5 | exact J.v6 | exact J.l0 | exact J.l1 | exact J.l2 | exact J.l3 | exact J.row (by assumption) | exact J.ops (by assumption) | exact J.job (by assumption)) ⟨rfl, rfl⟩ (by decide) (fun r_1 => ?_) (fun a_1 r_1 => ?_)
  · refine bq_astore_nN (i := 2) dX4_latestFinish_4 (by decide) ?_
    refine bq_aload_n (i := 1) dX4_latestFinish_5 rfl ?_
    refine bt_get2 (c' := 2) dX4_latestFinish_6 fl_X4_153 (by first | assumption | exact J.v3 | exact J.v4 | exact J.v5 | exact J.v6 | exact J.l0 | exact J.l1 | exact J.l2 | exact J.l3 | exact J.row (by assumption) | exact J.ops (by assumption) | exact J.job (by assumption)) ⟨rfl, rfl⟩ (by decide) (fun r_6 => ?_) (fun a_6 r_6 => ?_)
    · refine bq_astore_nN (i := 3) dX4_latestFinish_9 (by decide) ?_
      refine bq_aload_n (i := 0) dX4_latestFinish_10 rfl ?_
      refine bt_get0 dX4_latestFinish_11 fl_X4_58 (by first | assumption | exact J.v3 | exact J.v4 | exact J.v5 | exact J.v6 | exact J.l0 | exact J.l1 | exact J.l2 | exact J.l3 | exact J.row (by assumption) | exact J.ops (by assumption) | exact J.job (by assumption)) rfl (by decide) ?_
      refine bq_istore (i := 4) dX4_latestFinish_14 (by decide) ?_
      refine bq_aload_nN (i := 2) dX4_latestFinish_16 rfl ?_
      refine bq_ifnullN (tgt := 31) dX4_latestFinish_17 (by decide) ?_
      refine bq_aload_nN (i := 3) dX4_latestFinish_31 rfl ?_
      refine bq_ifnullN (tgt := 56) dX4_latestFinish_32 (by decide) ?_
      refine bq_iload (i := 4) dX4_latestFinish_56 rfl ?_
      exact bq_iret dX4_latestFinish_58 rfl (by first | rfl | decide) (by unfold b_lfin; rw [r_1, r_6]; exact bq_ret_i)
    · have v_6 := J.lnk9 (by first | assumption | exact J.v3 | exact J.v4 | exact J.v5 | exact J.v6 | exact J.l0 | exact J.l1 | exact J.l2 | exact J.l3 | exact J.row (by assumption) | exact J.ops (by assumption) | exact J.job (by assumption)) r_6
      refine bq_astore_n (i := 3) dX4_latestFinish_9 (by decide) ?_
      refine bq_aload_n (i := 0) dX4_latestFinish_10 rfl ?_
      refine bt_get0 dX4_latestFinish_11 fl_X4_58 (by first | assumption | exact J.v3 | exact J.v4 | exact J.v5 | exact J.v6 | exact J.l0 | exact J.l1 | exact J.l2 | exact J.l3 | exact J.row (by assumption) | exact J.ops (by assumption) | exact J.job (by assumption)) rfl (by decide) ?_
      refine bq_istore (i := 4) dX4_latestFinish_14 (by decide) ?_
      refine bq_aload_nN (i := 2) dX4_latestFinish_16 rfl ?_
      refine bq_ifnullN (tgt := 31) dX4_latestFinish_17 (by decide) ?_
      refine bq_aload_n (i := 3) dX4_latestFinish_31 rfl ?_
      refine bq_ifnull dX4_latestFinish_32 ?_
      refine bq_iload (i := 4) dX4_latestFinish_35 rfl ?_
      refine bq_aload_n (i := 3) dX4_latestFinish_37 rfl ?_
      refine bt_get0 dX4_latestFinish_38 fl_X4_147 (by first | assumption | exact J.v3 | exact J.v4 | exact J.v5 | exact J.v6 | exact J.l0 | exact J.l1 | exact J.l2 | exact J.l3 | exact J.row (by assumption) | exact J.ops (by assumption) | exact J.job (by assumption)) rfl (by decide) ?_
      refine bq_aload_n (i := 0) dX4_latestFinish_41 rfl ?_
      refine bt_get3 (c' := 3) (n := 0) dX4_latestFinish_42 fl_X4_24 (by first | assumption | exact J.v3 | exact J.v4 | exact J.v5 | exact J.v6 | exact J.l0 | exact J.l1 | exact J.l2 | exact J.l3 | exact J.row (by assumption) | exact J.ops (by assumption) | exact J.job (by assumption)) ⟨rfl, rfl, rfl⟩ (by decide) ?_
      refine bq_aload_n (i := 1) dX4_latestFinish_45 rfl ?_
      refine bq_aload_n (i := 3) dX4_latestFinish_46 rfl ?_
      refine bt_callVr (c := 3) (i := 0) dX4_latestFinish_47 rfl ml_X4_110 (by first | assumption | exact J.v3 | exact J.v4 | exact J.v5 | exact J.v6 | exact J.l0 | exact J.l1 | exact J.l2 | exact J.l3 | exact J.row (by assumption) | exact J.ops (by assumption) | exact J.job (by assumption)) (by decide) (c_betS (i := a_6) (a := i) J (by assumption) (by assumption)) (by decide) (by decide) (Nat.le_of_ble_eq_true rfl) rfl ?_
      refine bq_isub dX4_latestFinish_50 ?_
      refine bq_mmin dX4_latestFinish_51 ⟨ml_X4_156, mw_min⟩ (by decide) (Nat.le_of_ble_eq_true rfl) ?_
      refine bq_istore (i := 4) dX4_latestFinish_54 (by decide) ?_
      refine bq_iload (i := 4) dX4_latestFinish_56 rfl ?_
      exact bq_iret dX4_latestFinish_58 rfl (by first | rfl | decide) (by unfold b_lfin; rw [r_1, r_6]; exact bq_ret_i)
  · have v_1 := J.lnk7 (by first | assumption | exact J.v3 | exact J.v4 | exact J.v5 | exact J.v6 | exact J.l0 | exact J.l1 | exact J.l2 | exact J.l3 | exact J.row (by assumption) | exact J.ops (by assumption) | exact J.job (by assumption)) r_1
    refine bq_astore_n (i := 2) dX4_latestFinish_4 (by decide) ?_
    refine bq_aload_n (i := 1) dX4_latestFinish_5 rfl ?_
    refine bt_get2 (c' := 2) dX4_latestFinish_6 fl_X4_153 (by first | assumption | exact J.v3 | exact J.v4 | exact J.v5 | exact J.v6 | exact J.l0 | exact J.l1 | exact J.l2 | exact J.l3 | exact J.row (by assumption) | exact J.ops (by assumption) | exact J.job (by assumption)) ⟨rfl, rfl⟩ (by decide) (fun r_6 => ?_) (fun a_6 r_6 => ?_)
    · refine bq_astore_nN (i := 3) dX4_latestFinish_9 (by decide) ?_
      refine bq_aload_n (i := 0) dX4_latestFinish_10 rfl ?_
      refine bt_get0 dX4_latestFinish_11 fl_X4_58 (by first | assumption | exact J.v3 | exact J.v4 | exact J.v5 | exact J.v6 | exact J.l0 | exact J.l1 | exact J.l2 | exact J.l3 | exact J.row (by assumption) | exact J.ops (by assumption) | exact J.job (by assumption)) rfl (by decide) ?_
      refine bq_istore (i := 4) dX4_latestFinish_14 (by decide) ?_
      refine bq_aload_n (i := 2) dX4_latestFinish_16 rfl ?_
      refine bq_ifnull dX4_latestFinish_17 ?_
      refine bq_iload (i := 4) dX4_latestFinish_20 rfl ?_
      refine bq_aload_n (i := 2) dX4_latestFinish_22 rfl ?_
      refine bt_get0 dX4_latestFinish_23 fl_X4_147 (by first | assumption | exact J.v3 | exact J.v4 | exact J.v5 | exact J.v6 | exact J.l0 | exact J.l1 | exact J.l2 | exact J.l3 | exact J.row (by assumption) | exact J.ops (by assumption) | exact J.job (by assumption)) rfl (by decide) ?_
      refine bq_mmin dX4_latestFinish_26 ⟨ml_X4_156, mw_min⟩ (by decide) (Nat.le_of_ble_eq_true rfl) ?_
      refine bq_istore (i := 4) dX4_latestFinish_29 (by decide) ?_
      refine bq_aload_nN (i := 3) dX4_latestFinish_31 rfl ?_
      refine bq_ifnullN (tgt := 56) dX4_latestFinish_32 (by decide) ?_
      refine bq_iload (i := 4) dX4_latestFinish_56 rfl ?_
      exact bq_iret dX4_latestFinish_58 rfl (by first | rfl | decide) (by unfold b_lfin; rw [r_1, r_6]; exact bq_ret_i)
    · have v_6 := J.lnk9 (by first | assumption | exact J.v3 | exact J.v4 | exact J.v5 | exact J.v6 | exact J.l0 | exact J.l1 | exact J.l2 | exact J.l3 | exact J.row (by assumption) | exact J.ops (by assumption) | exact J.job (by assumption)) r_6
      refine bq_astore_n (i := 3) dX4_latestFinish_9 (by decide) ?_
      refine bq_aload_n (i := 0) dX4_latestFinish_10 rfl ?_
      refine bt_get0 dX4_latestFinish_11 fl_X4_58 (by first | assumption | exact J.v3 | exact J.v4 | exact J.v5 | exact J.v6 | exact J.l0 | exact J.l1 | exact J.l2 | exact J.l3 | exact J.row (by assumption) | exact J.ops (by assumption) | exact J.job (by assumption)) rfl (by decide) ?_
      refine bq_istore (i := 4) dX4_latestFinish_14 (by decide) ?_
      refine bq_aload_n (i := 2) dX4_latestFinish_16 rfl ?_
      refine bq_ifnull dX4_latestFinish_17 ?_
      refine bq_iload (i := 4) dX4_latestFinish_20 rfl ?_
      refine bq_aload_n (i := 2) dX4_latestFinish_22 rfl ?_
      refine bt_get0 dX4_latestFinish_23 fl_X4_147 (by first | assumption | exact J.v3 | exact J.v4 | exact J.v5 | exact J.v6 | exact J.l0 | exact J.l1 | exact J.l2 | exact J.l3 | exact J.row (by assumption) | exact J.ops (by assumption) | exact J.job (by assumption)) rfl (by decide) ?_
      refine bq_mmin dX4_latestFinish_26 ⟨ml_X4_156, mw_min⟩ (by decide) (Nat.le_of_ble_eq_true rfl) ?_
      refine bq_istore (i := 4) dX4_latestFinish_29 (by decide) ?_
      refine bq_aload_n (i := 3) dX4_latestFinish_31 rfl ?_
      refine bq_ifnull dX4_latestFinish_32 ?_
      refine bq_iload (i := 4) dX4_latestFinish_35 rfl ?_
      refine bq_aload_n (i := 3) dX4_latestFinish_37 rfl ?_
      refine bt_get0 dX4_latestFinish_38 fl_X4_147 (by first | assumption | exact J.v3 | exact J.v4 | exact J.v5 | exact J.v6 | exact J.l0 | exact J.l1 | exact J.l2 | exact J.l3 | exact J.row (by assumption) | exact J.ops (by assumption) | exact J.job (by assumption)) rfl (by decide) ?_
      refine bq_aload_n (i := 0) dX4_latestFinish_41 rfl ?_
      refine bt_get3 (c' := 3) (n := 0) dX4_latestFinish_42 fl_X4_24 (by first | assumption | exact J.v3 | exact J.v4 | exact J.v5 | exact J.v6 | exact J.l0 | exact J.l1 | exact J.l2 | exact J.l3 | exact J.row (by assumption) | exact J.ops (by assumption) | exact J.job (by assumption)) ⟨rfl, rfl, rfl⟩ (by decide) ?_
      refine bq_aload_n (i := 1) dX4_latestFinish_45 rfl ?_
      refine bq_aload_n (i := 3) dX4_latestFinish_46 rfl ?_
      refine bt_callVr (c := 3) (i := 0) dX4_latestFinish_47 rfl ml_X4_110 (by first | assumption | exact J.v3 | exact J.v4 | exact J.v5 | exact J.v6 | exact J.l0 | exact J.l1 | exact J.l2 | exact J.l3 | exact J.row (by assumption) | exact J.ops (by assumption) | exact J.job (by assumption)) (by decide) (c_betS (i := a_6) (a := i) J (by assumption) (by assumption)) (by decide) (by decide) (Nat.le_of_ble_eq_true rfl) rfl ?_
      refine bq_isub dX4_latestFinish_50 ?_
      refine bq_mmin dX4_latestFinish_51 ⟨ml_X4_156, mw_min⟩ (by decide) (Nat.le_of_ble_eq_true rfl) ?_
      refine bq_istore (i := 4) dX4_latestFinish_54 (by decide) ?_
      refine bq_iload (i := 4) dX4_latestFinish_56 rfl ?_
      exact bq_iret dX4_latestFinish_58 rfl (by first | rfl | decide) (by unfold b_lfin; rw [r_1, r_6]; exact bq_ret_i)
set_option maxRecDepth 100000 in
set_option maxHeartbeats 400000 in
theorem c_lat_l {G : bp_X} {α : bt_A} {σ : bt_X} : ∀ (n : Nat) (x : bt_X), bt_J α σ x → (x.2.2 2).length ≤ 33 → n ≤ (x.2.2 2).length →
    bq_W G mX4_findLatestStarts 3 10 [(0, .ref (bt_ad α 4 0)), (1, .int (nI n - nI 1))] [] (bt α σ x) (bq_ret none (bt α σ (b_latL σ x ((x.2.2 2).take n).reverse))) := by
  intro n
  induction n with
  | zero =>
    intro x J hlen hn
    refine bq_iload_n (i := 1) dX4_findLatestStarts_10 rfl ?_
    refine bq_if_lt (tgt := 59) dX4_findLatestStarts_11 (by decide) (fun c_11 => ?_) (fun z9_ => absurd (show (nI 0 - nI 1 : Int32) < 0 by decide) z9_)
    exact bq_vret dX4_findLatestStarts_59 rfl bq_ret_i
  | succ n ih =>
    intro x J hlen hn
    have hn1 : n < (x.2.2 2).length := by omega
    have e1 : (nI (n + 1) - nI 1 : Int32) = nI n := by rw [pk_sub (by omega)]; rfl
    rw [e1, List.take_succ_eq_append_getElem hn1, List.reverse_append]
    obtain ⟨i, hi⟩ : ∃ i, (x.2.2 2)[n] = i := ⟨_, rfl⟩
    rw [hi]
    show bq_W G _ _ 10 _ _ _ (bq_ret none (bt α σ (b_latL σ (b_lat1 σ x i) ((x.2.2 2).take n).reverse)))
    have hi2 : (x.2.2 2)[n]? = some i := by rw [List.getElem?_eq_getElem hn1, hi]
    refine bq_iload_n (i := 1) dX4_findLatestStarts_10 rfl ?_
    refine bq_if_lt (tgt := 59) dX4_findLatestStarts_11 (by decide) (fun z9_ => absurd z9_ (show ¬ nI n < 0 from nI_pos (by omega))) (fun c_11 => ?_)
    refine bq_aload_n (i := 0) dX4_findLatestStarts_14 rfl ?_
    refine bt_get3 (c' := 7) (n := 2) dX4_findLatestStarts_15 fl_X4_28 (by first | assumption | exact J.v3 | exact J.v4 | exact J.v5 | exact J.v6 | exact J.l0 | exact J.l1 | exact J.l2 | exact J.l3 | exact J.row (by assumption) | exact J.ops (by assumption) | exact J.job (by assumption)) ⟨rfl, rfl, rfl⟩ (by decide) ?_
    refine bq_iload_n (i := 1) dX4_findLatestStarts_18 rfl ?_
    refine bt_geti (j := n) (y := i) (c' := 2) dX4_findLatestStarts_19 ml_X4_72 (by first | assumption | exact J.v3 | exact J.v4 | exact J.v5 | exact J.v6 | exact J.l0 | exact J.l1 | exact J.l2 | exact J.l3 | exact J.row (by assumption) | exact J.ops (by assumption) | exact J.job (by assumption)) rfl rfl hi2 rfl (by decide) (Nat.le_of_ble_eq_true rfl) (fun v_19 => ?_)
    obtain ⟨m, hm, hVm⟩ := J.mach v_19
    refine bt_cast (c := 2) dX4_findLatestStarts_22 rfl cl_X4_35 (by first | assumption | exact J.v3 | exact J.v4 | exact J.v5 | exact J.v6 | exact J.l0 | exact J.l1 | exact J.l2 | exact J.l3 | exact J.row (by assumption) | exact J.ops (by assumption) | exact J.job (by assumption)) (by decide) ?_
    refine bq_astore_n (i := 2) dX4_findLatestStarts_25 (by decide) ?_
    refine bq_aload_n (i := 0) dX4_findLatestStarts_26 rfl ?_
    refine bq_aload_n (i := 2) dX4_findLatestStarts_27 rfl ?_
    refine bt_callVr (c := 4) (i := 0) dX4_findLatestStarts_28 rfl ml_X4_141 (by first | assumption | exact J.v3 | exact J.v4 | exact J.v5 | exact J.v6 | exact J.l0 | exact J.l1 | exact J.l2 | exact J.l3 | exact J.row (by assumption) | exact J.ops (by assumption) | exact J.job (by assumption)) (by decide) (c_lfin J v_19) (by decide) (by decide) (Nat.le_of_ble_eq_true rfl) rfl ?_
    refine bq_aload_n (i := 2) dX4_findLatestStarts_31 rfl ?_
    refine bt_get4 dX4_findLatestStarts_32 fl_X4_120 (by first | assumption | exact J.v3 | exact J.v4 | exact J.v5 | exact J.v6 | exact J.l0 | exact J.l1 | exact J.l2 | exact J.l3 | exact J.row (by assumption) | exact J.ops (by assumption) | exact J.job (by assumption)) rfl (by decide) ?_
    refine bq_isub dX4_findLatestStarts_35 ?_
    refine bq_istore_n (i := 3) dX4_findLatestStarts_36 (by decide) ?_
    refine bq_aload_n (i := 2) dX4_findLatestStarts_37 rfl ?_
    refine bq_aload_n (i := 2) dX4_findLatestStarts_38 rfl ?_
    refine bt_get5s (c' := 1) (a := m) dX4_findLatestStarts_39 fl_X4_34 (by first | assumption | exact J.v3 | exact J.v4 | exact J.v5 | exact J.v6 | exact J.l0 | exact J.l1 | exact J.l2 | exact J.l3 | exact J.row (by assumption) | exact J.ops (by assumption) | exact J.job (by assumption)) ⟨rfl, rfl⟩ (by decide) hm ?_
    refine bq_iload_n (i := 3) dX4_findLatestStarts_42 rfl ?_
    refine bq_aload_n (i := 2) dX4_findLatestStarts_43 rfl ?_
    refine bt_get4 dX4_findLatestStarts_44 fl_X4_120 (by first | assumption | exact J.v3 | exact J.v4 | exact J.v5 | exact J.v6 | exact J.l0 | exact J.l1 | exact J.l2 | exact J.l3 | exact J.row (by assumption) | exact J.ops (by assumption) | exact J.job (by assumption)) rfl (by decide) ?_
    refine bt_callVr (c := 1) (i := m) dX4_findLatestStarts_47 rfl ml_X4_144 (by first | assumption | exact J.v3 | exact J.v4 | exact J.v5 | exact J.v6 | exact J.l0 | exact J.l1 | exact J.l2 | exact J.l3 | exact J.row (by assumption) | exact J.ops (by assumption) | exact J.job (by assumption)) (by decide) (c_gs hVm) (by decide) (by decide) (Nat.le_of_ble_eq_true rfl) rfl ?_
    refine bt_put0 dX4_findLatestStarts_50 fl_X4_147 (by first | assumption | exact J.v3 | exact J.v4 | exact J.v5 | exact J.v6 | exact J.l0 | exact J.l1 | exact J.l2 | exact J.l3 | exact J.row (by assumption) | exact J.ops (by assumption) | exact J.job (by assumption)) rfl (by decide) (by first | rfl | decide) (by first | rfl | decide) ?_
    refine bq_iinc dX4_findLatestStarts_53 rfl (by decide) (show nI n + Int32.ofInt (-1) = nI n - nI 1 by rw [Int32.sub_eq_add_neg]; rfl) ?_
    refine bq_goto (tgt := 10) dX4_findLatestStarts_56 (by decide) ?_
    refine bq_lvs (lv' := [(0, .ref (bt_ad α 4 0)), (1, .int (nI n - nI 1))]) ⟨rfl, rfl, trivial⟩ ?_
    refine bq_eqw (w2 := bt α σ (b_lat1 σ x i)) (by unfold b_lat1; rw [b_m_of hm]) ?_
    exact ih (b_lat1 σ x i) J.gs hlen (Nat.le_of_lt hn1)
set_option maxRecDepth 100000 in
set_option maxHeartbeats 400000 in
theorem c_lat {G : bp_X} {α : bt_A} {σ x : bt_X} (J : bt_J α σ x) (ho : (x.2.2 2).length ≤ 33) : bq_S G mX4_findLatestStarts 3 [.ref (bt_ad α 4 0)] (bt α σ x) (bq_ret none (bt α σ (b_lat σ x))) := by
  refine bq_ofW (by decide +kernel) rfl (Nat.le_of_ble_eq_true rfl) ?_
  refine bq_aload_n (i := 0) dX4_findLatestStarts_0 rfl ?_
  refine bt_get3 (c' := 7) (n := 2) dX4_findLatestStarts_1 fl_X4_28 (by first | assumption | exact J.v3 | exact J.v4 | exact J.v5 | exact J.v6 | exact J.l0 | exact J.l1 | exact J.l2 | exact J.l3 | exact J.row (by assumption) | exact J.ops (by assumption) | exact J.job (by assumption)) ⟨rfl, rfl, rfl⟩ (by decide) ?_
  refine bt_size dX4_findLatestStarts_4 ml_X4_45 (by first | assumption | exact J.v3 | exact J.v4 | exact J.v5 | exact J.v6 | exact J.l0 | exact J.l1 | exact J.l2 | exact J.l3 | exact J.row (by assumption) | exact J.ops (by assumption) | exact J.job (by assumption)) rfl (by decide) (Nat.le_of_ble_eq_true rfl) ?_
  refine bq_iconst (v := (nI 1)) dX4_findLatestStarts_7 (by decide) ?_
  refine bq_isub dX4_findLatestStarts_8 ?_
  refine bq_istore_n (i := 1) dX4_findLatestStarts_9 (by decide) ?_
  refine bq_lvs (lv' := [(0, .ref (bt_ad α 4 0)), (1, .int (nI (x.2.2 2).length - nI 1))]) ⟨rfl, rfl, trivial⟩ ?_
  have g := c_lat_l (G := G) (x.2.2 2).length x J ho (Nat.le_refl _)
  rw [List.take_length] at g
  exact g

