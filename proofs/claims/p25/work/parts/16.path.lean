/-! ===== the critical path ===== -/
def b_ahead2 (σ x : bt_X) (i : Nat) : Option Nat := match x.2.1 2 i 8 with
  | some b => if x.1 2 b 11 + b_bet σ (some b) i = x.1 2 i 10 then some b else none
  | none => none
def b_ahead (σ x : bt_X) (i : Nat) : Option Nat := match σ.2.1 2 i 6 with
  | some a => if x.1 2 a 11 = x.1 2 i 10 then some a else b_ahead2 σ x i
  | none => b_ahead2 σ x i
def b_lastO (x : bt_X) : List Nat → Option Nat
  | [] => none
  | i :: os => if x.1 2 i 11 = x.1 4 0 5 then some i else b_lastO x os
def b_lastJ (σ x : bt_X) : List Nat → Option Nat
  | [] => none
  | j :: L => if σ.1 0 j 3 = 0 then b_lastJ σ x L else match b_lastO x (σ.2.2 (8 + j)) with
    | some i => some i
    | none => b_lastJ σ x L
def b_pathL (σ : bt_X) : Nat → bt_X → Option Nat → bt_X
  | 0, x, _ => x
  | _ + 1, x, none => x
  | n + 1, x, some i => b_pathL σ n (bt_lp x 3 (x.2.2 3 ++ [i])) (b_ahead σ x i)
def b_path (σ x : bt_X) : bt_X := b_pathL σ 32 (bt_lp x 3 []) (b_lastJ σ x (σ.2.2 1))
def b_rv (α : bt_A) (a : Option Nat) : Value := va_rf (a.map (bt_ad α 2))
set_option maxRecDepth 100000 in
set_option maxHeartbeats 400000 in
theorem c_ahead {G : bp_X} {α : bt_A} {σ x : bt_X} {i : Nat} (J : bt_J α σ x) (hO : bt_V α 2 i) : bq_S G mX4_aheadOnPath 1 [.ref (bt_ad α 4 0), .ref (bt_ad α 2 i)] (bt α σ x) (bq_ret (some (b_rv α (b_ahead σ x i))) (bt α σ x)) := by
  refine bq_ofW (by decide +kernel) rfl (Nat.le_of_ble_eq_true rfl) ?_
  refine bq_aload_n (i := 1) dX4_aheadOnPath_0 rfl ?_
  refine bt_get5 (c' := 2) dX4_aheadOnPath_1 fl_X4_100 (by first | assumption | exact J.v3 | exact J.v4 | exact J.v5 | exact J.v6 | exact J.l0 | exact J.l1 | exact J.l2 | exact J.l3 | exact J.row (by assumption) | exact J.ops (by assumption) | exact J.job (by assumption)) ⟨rfl, rfl⟩ (by decide) (fun r_1 => ?_) (fun a_1 r_1 => ?_)
  · refine bq_astore_nN (i := 2) dX4_aheadOnPath_4 (by decide) ?_
    refine bq_aload_n (i := 1) dX4_aheadOnPath_5 rfl ?_
    refine bt_get2 (c' := 2) dX4_aheadOnPath_6 fl_X4_104 (by first | assumption | exact J.v3 | exact J.v4 | exact J.v5 | exact J.v6 | exact J.l0 | exact J.l1 | exact J.l2 | exact J.l3 | exact J.row (by assumption) | exact J.ops (by assumption) | exact J.job (by assumption)) ⟨rfl, rfl⟩ (by decide) (fun r_6 => ?_) (fun a_6 r_6 => ?_)
    · refine bq_astore_nN (i := 3) dX4_aheadOnPath_9 (by decide) ?_
      refine bq_aload_nN (i := 2) dX4_aheadOnPath_10 rfl ?_
      refine bq_ifnullN (tgt := 27) dX4_aheadOnPath_11 (by decide) ?_
      refine bq_aload_nN (i := 3) dX4_aheadOnPath_27 rfl ?_
      refine bq_ifnullN (tgt := 54) dX4_aheadOnPath_28 (by decide) ?_
      refine bq_null dX4_aheadOnPath_54 ?_
      exact bq_aretN dX4_aheadOnPath_55 rfl (by first | (unfold b_ahead; rw [r_1]; simp only []; rw [if_pos c_22]; exact bq_ret_i) | (unfold b_ahead b_ahead2; rw [r_1, r_6]; simp only []; rw [if_neg c_22, if_pos c_49]; exact bq_ret_i) | (unfold b_ahead b_ahead2; rw [r_1, r_6]; simp only []; rw [if_neg c_22, if_neg c_49]; exact bq_ret_i) | (unfold b_ahead b_ahead2; rw [r_1, r_6]; simp only []; rw [if_neg c_22]; exact bq_ret_i) | (unfold b_ahead b_ahead2; rw [r_1, r_6]; simp only []; rw [if_pos c_49]; exact bq_ret_i) | (unfold b_ahead b_ahead2; rw [r_1, r_6]; simp only []; rw [if_neg c_49]; exact bq_ret_i) | (unfold b_ahead b_ahead2; rw [r_1, r_6]; exact bq_ret_i))
    · have v_6 := J.lnk8 (by first | assumption | exact J.v3 | exact J.v4 | exact J.v5 | exact J.v6 | exact J.l0 | exact J.l1 | exact J.l2 | exact J.l3 | exact J.row (by assumption) | exact J.ops (by assumption) | exact J.job (by assumption)) r_6
      refine bq_astore_n (i := 3) dX4_aheadOnPath_9 (by decide) ?_
      refine bq_aload_nN (i := 2) dX4_aheadOnPath_10 rfl ?_
      refine bq_ifnullN (tgt := 27) dX4_aheadOnPath_11 (by decide) ?_
      refine bq_aload_n (i := 3) dX4_aheadOnPath_27 rfl ?_
      refine bq_ifnull dX4_aheadOnPath_28 ?_
      refine bq_aload_n (i := 3) dX4_aheadOnPath_31 rfl ?_
      refine bt_get0 dX4_aheadOnPath_32 fl_X4_107 (by first | assumption | exact J.v3 | exact J.v4 | exact J.v5 | exact J.v6 | exact J.l0 | exact J.l1 | exact J.l2 | exact J.l3 | exact J.row (by assumption) | exact J.ops (by assumption) | exact J.job (by assumption)) rfl (by decide) ?_
      refine bq_aload_n (i := 0) dX4_aheadOnPath_35 rfl ?_
      refine bt_get3 (c' := 3) (n := 0) dX4_aheadOnPath_36 fl_X4_24 (by first | assumption | exact J.v3 | exact J.v4 | exact J.v5 | exact J.v6 | exact J.l0 | exact J.l1 | exact J.l2 | exact J.l3 | exact J.row (by assumption) | exact J.ops (by assumption) | exact J.job (by assumption)) ⟨rfl, rfl, rfl⟩ (by decide) ?_
      refine bq_aload_n (i := 3) dX4_aheadOnPath_39 rfl ?_
      refine bq_aload_n (i := 1) dX4_aheadOnPath_40 rfl ?_
      refine bt_callVr (c := 3) (i := 0) dX4_aheadOnPath_41 rfl ml_X4_110 (by first | assumption | exact J.v3 | exact J.v4 | exact J.v5 | exact J.v6 | exact J.l0 | exact J.l1 | exact J.l2 | exact J.l3 | exact J.row (by assumption) | exact J.ops (by assumption) | exact J.job (by assumption)) (by decide) (c_betS (i := i) (a := a_6) J (by assumption) (by assumption)) (by decide) (by decide) (Nat.le_of_ble_eq_true rfl) rfl ?_
      refine bq_iadd dX4_aheadOnPath_44 ?_
      refine bq_aload_n (i := 1) dX4_aheadOnPath_45 rfl ?_
      refine bt_get0 dX4_aheadOnPath_46 fl_X4_62 (by first | assumption | exact J.v3 | exact J.v4 | exact J.v5 | exact J.v6 | exact J.l0 | exact J.l1 | exact J.l2 | exact J.l3 | exact J.row (by assumption) | exact J.ops (by assumption) | exact J.job (by assumption)) rfl (by decide) ?_
      refine bq_icmp_ne (tgt := 54) dX4_aheadOnPath_49 (by decide) (fun c_49 => ?_) (fun c_49 => ?_)
      · refine bq_null dX4_aheadOnPath_54 ?_
        exact bq_aretN dX4_aheadOnPath_55 rfl (by first | (unfold b_ahead; rw [r_1]; simp only []; rw [if_pos c_22]; exact bq_ret_i) | (unfold b_ahead b_ahead2; rw [r_1, r_6]; simp only []; rw [if_neg c_22, if_pos c_49]; exact bq_ret_i) | (unfold b_ahead b_ahead2; rw [r_1, r_6]; simp only []; rw [if_neg c_22, if_neg c_49]; exact bq_ret_i) | (unfold b_ahead b_ahead2; rw [r_1, r_6]; simp only []; rw [if_neg c_22]; exact bq_ret_i) | (unfold b_ahead b_ahead2; rw [r_1, r_6]; simp only []; rw [if_pos c_49]; exact bq_ret_i) | (unfold b_ahead b_ahead2; rw [r_1, r_6]; simp only []; rw [if_neg c_49]; exact bq_ret_i) | (unfold b_ahead b_ahead2; rw [r_1, r_6]; exact bq_ret_i))
      · refine bq_aload_n (i := 3) dX4_aheadOnPath_52 rfl ?_
        exact bq_aret dX4_aheadOnPath_53 rfl (by first | (unfold b_ahead; rw [r_1]; simp only []; rw [if_pos c_22]; exact bq_ret_i) | (unfold b_ahead b_ahead2; rw [r_1, r_6]; simp only []; rw [if_neg c_22, if_pos c_49]; exact bq_ret_i) | (unfold b_ahead b_ahead2; rw [r_1, r_6]; simp only []; rw [if_neg c_22, if_neg c_49]; exact bq_ret_i) | (unfold b_ahead b_ahead2; rw [r_1, r_6]; simp only []; rw [if_neg c_22]; exact bq_ret_i) | (unfold b_ahead b_ahead2; rw [r_1, r_6]; simp only []; rw [if_pos c_49]; exact bq_ret_i) | (unfold b_ahead b_ahead2; rw [r_1, r_6]; simp only []; rw [if_neg c_49]; exact bq_ret_i) | (unfold b_ahead b_ahead2; rw [r_1, r_6]; exact bq_ret_i))
  · have v_1 := J.lnk6 (by first | assumption | exact J.v3 | exact J.v4 | exact J.v5 | exact J.v6 | exact J.l0 | exact J.l1 | exact J.l2 | exact J.l3 | exact J.row (by assumption) | exact J.ops (by assumption) | exact J.job (by assumption)) r_1
    refine bq_astore_n (i := 2) dX4_aheadOnPath_4 (by decide) ?_
    refine bq_aload_n (i := 1) dX4_aheadOnPath_5 rfl ?_
    refine bt_get2 (c' := 2) dX4_aheadOnPath_6 fl_X4_104 (by first | assumption | exact J.v3 | exact J.v4 | exact J.v5 | exact J.v6 | exact J.l0 | exact J.l1 | exact J.l2 | exact J.l3 | exact J.row (by assumption) | exact J.ops (by assumption) | exact J.job (by assumption)) ⟨rfl, rfl⟩ (by decide) (fun r_6 => ?_) (fun a_6 r_6 => ?_)
    · refine bq_astore_nN (i := 3) dX4_aheadOnPath_9 (by decide) ?_
      refine bq_aload_n (i := 2) dX4_aheadOnPath_10 rfl ?_
      refine bq_ifnull dX4_aheadOnPath_11 ?_
      refine bq_aload_n (i := 2) dX4_aheadOnPath_14 rfl ?_
      refine bt_get0 dX4_aheadOnPath_15 fl_X4_107 (by first | assumption | exact J.v3 | exact J.v4 | exact J.v5 | exact J.v6 | exact J.l0 | exact J.l1 | exact J.l2 | exact J.l3 | exact J.row (by assumption) | exact J.ops (by assumption) | exact J.job (by assumption)) rfl (by decide) ?_
      refine bq_aload_n (i := 1) dX4_aheadOnPath_18 rfl ?_
      refine bt_get0 dX4_aheadOnPath_19 fl_X4_62 (by first | assumption | exact J.v3 | exact J.v4 | exact J.v5 | exact J.v6 | exact J.l0 | exact J.l1 | exact J.l2 | exact J.l3 | exact J.row (by assumption) | exact J.ops (by assumption) | exact J.job (by assumption)) rfl (by decide) ?_
      refine bq_icmp_ne (tgt := 27) dX4_aheadOnPath_22 (by decide) (fun c_22 => ?_) (fun c_22 => ?_)
      · refine bq_aload_nN (i := 3) dX4_aheadOnPath_27 rfl ?_
        refine bq_ifnullN (tgt := 54) dX4_aheadOnPath_28 (by decide) ?_
        refine bq_null dX4_aheadOnPath_54 ?_
        exact bq_aretN dX4_aheadOnPath_55 rfl (by first | (unfold b_ahead; rw [r_1]; simp only []; rw [if_pos c_22]; exact bq_ret_i) | (unfold b_ahead b_ahead2; rw [r_1, r_6]; simp only []; rw [if_neg c_22, if_pos c_49]; exact bq_ret_i) | (unfold b_ahead b_ahead2; rw [r_1, r_6]; simp only []; rw [if_neg c_22, if_neg c_49]; exact bq_ret_i) | (unfold b_ahead b_ahead2; rw [r_1, r_6]; simp only []; rw [if_neg c_22]; exact bq_ret_i) | (unfold b_ahead b_ahead2; rw [r_1, r_6]; simp only []; rw [if_pos c_49]; exact bq_ret_i) | (unfold b_ahead b_ahead2; rw [r_1, r_6]; simp only []; rw [if_neg c_49]; exact bq_ret_i) | (unfold b_ahead b_ahead2; rw [r_1, r_6]; exact bq_ret_i))
      · refine bq_aload_n (i := 2) dX4_aheadOnPath_25 rfl ?_
        exact bq_aret dX4_aheadOnPath_26 rfl (by first | (unfold b_ahead; rw [r_1]; simp only []; rw [if_pos c_22]; exact bq_ret_i) | (unfold b_ahead b_ahead2; rw [r_1, r_6]; simp only []; rw [if_neg c_22, if_pos c_49]; exact bq_ret_i) | (unfold b_ahead b_ahead2; rw [r_1, r_6]; simp only []; rw [if_neg c_22, if_neg c_49]; exact bq_ret_i) | (unfold b_ahead b_ahead2; rw [r_1, r_6]; simp only []; rw [if_neg c_22]; exact bq_ret_i) | (unfold b_ahead b_ahead2; rw [r_1, r_6]; simp only []; rw [if_pos c_49]; exact bq_ret_i) | (unfold b_ahead b_ahead2; rw [r_1, r_6]; simp only []; rw [if_neg c_49]; exact bq_ret_i) | (unfold b_ahead b_ahead2; rw [r_1, r_6]; exact bq_ret_i))
    · have v_6 := J.lnk8 (by first | assumption | exact J.v3 | exact J.v4 | exact J.v5 | exact J.v6 | exact J.l0 | exact J.l1 | exact J.l2 | exact J.l3 | exact J.row (by assumption) | exact J.ops (by assumption) | exact J.job (by assumption)) r_6
      refine bq_astore_n (i := 3) dX4_aheadOnPath_9 (by decide) ?_
      refine bq_aload_n (i := 2) dX4_aheadOnPath_10 rfl ?_
      refine bq_ifnull dX4_aheadOnPath_11 ?_
      refine bq_aload_n (i := 2) dX4_aheadOnPath_14 rfl ?_
      refine bt_get0 dX4_aheadOnPath_15 fl_X4_107 (by first | assumption | exact J.v3 | exact J.v4 | exact J.v5 | exact J.v6 | exact J.l0 | exact J.l1 | exact J.l2 | exact J.l3 | exact J.row (by assumption) | exact J.ops (by assumption) | exact J.job (by assumption)) rfl (by decide) ?_
      refine bq_aload_n (i := 1) dX4_aheadOnPath_18 rfl ?_
      refine bt_get0 dX4_aheadOnPath_19 fl_X4_62 (by first | assumption | exact J.v3 | exact J.v4 | exact J.v5 | exact J.v6 | exact J.l0 | exact J.l1 | exact J.l2 | exact J.l3 | exact J.row (by assumption) | exact J.ops (by assumption) | exact J.job (by assumption)) rfl (by decide) ?_
      refine bq_icmp_ne (tgt := 27) dX4_aheadOnPath_22 (by decide) (fun c_22 => ?_) (fun c_22 => ?_)
      · refine bq_aload_n (i := 3) dX4_aheadOnPath_27 rfl ?_
        refine bq_ifnull dX4_aheadOnPath_28 ?_
        refine bq_aload_n (i := 3) dX4_aheadOnPath_31 rfl ?_
        refine bt_get0 dX4_aheadOnPath_32 fl_X4_107 (by first | assumption | exact J.v3 | exact J.v4 | exact J.v5 | exact J.v6 | exact J.l0 | exact J.l1 | exact J.l2 | exact J.l3 | exact J.row (by assumption) | exact J.ops (by assumption) | exact J.job (by assumption)) rfl (by decide) ?_
        refine bq_aload_n (i := 0) dX4_aheadOnPath_35 rfl ?_
        refine bt_get3 (c' := 3) (n := 0) dX4_aheadOnPath_36 fl_X4_24 (by first | assumption | exact J.v3 | exact J.v4 | exact J.v5 | exact J.v6 | exact J.l0 | exact J.l1 | exact J.l2 | exact J.l3 | exact J.row (by assumption) | exact J.ops (by assumption) | exact J.job (by assumption)) ⟨rfl, rfl, rfl⟩ (by decide) ?_
        refine bq_aload_n (i := 3) dX4_aheadOnPath_39 rfl ?_
        refine bq_aload_n (i := 1) dX4_aheadOnPath_40 rfl ?_
        refine bt_callVr (c := 3) (i := 0) dX4_aheadOnPath_41 rfl ml_X4_110 (by first | assumption | exact J.v3 | exact J.v4 | exact J.v5 | exact J.v6 | exact J.l0 | exact J.l1 | exact J.l2 | exact J.l3 | exact J.row (by assumption) | exact J.ops (by assumption) | exact J.job (by assumption)) (by decide) (c_betS (i := i) (a := a_6) J (by assumption) (by assumption)) (by decide) (by decide) (Nat.le_of_ble_eq_true rfl) rfl ?_
        refine bq_iadd dX4_aheadOnPath_44 ?_
        refine bq_aload_n (i := 1) dX4_aheadOnPath_45 rfl ?_
        refine bt_get0 dX4_aheadOnPath_46 fl_X4_62 (by first | assumption | exact J.v3 | exact J.v4 | exact J.v5 | exact J.v6 | exact J.l0 | exact J.l1 | exact J.l2 | exact J.l3 | exact J.row (by assumption) | exact J.ops (by assumption) | exact J.job (by assumption)) rfl (by decide) ?_
        refine bq_icmp_ne (tgt := 54) dX4_aheadOnPath_49 (by decide) (fun c_49 => ?_) (fun c_49 => ?_)
        · refine bq_null dX4_aheadOnPath_54 ?_
          exact bq_aretN dX4_aheadOnPath_55 rfl (by first | (unfold b_ahead; rw [r_1]; simp only []; rw [if_pos c_22]; exact bq_ret_i) | (unfold b_ahead b_ahead2; rw [r_1, r_6]; simp only []; rw [if_neg c_22, if_pos c_49]; exact bq_ret_i) | (unfold b_ahead b_ahead2; rw [r_1, r_6]; simp only []; rw [if_neg c_22, if_neg c_49]; exact bq_ret_i) | (unfold b_ahead b_ahead2; rw [r_1, r_6]; simp only []; rw [if_neg c_22]; exact bq_ret_i) | (unfold b_ahead b_ahead2; rw [r_1, r_6]; simp only []; rw [if_pos c_49]; exact bq_ret_i) | (unfold b_ahead b_ahead2; rw [r_1, r_6]; simp only []; rw [if_neg c_49]; exact bq_ret_i) | (unfold b_ahead b_ahead2; rw [r_1, r_6]; exact bq_ret_i))
        · refine bq_aload_n (i := 3) dX4_aheadOnPath_52 rfl ?_
          exact bq_aret dX4_aheadOnPath_53 rfl (by first | (unfold b_ahead; rw [r_1]; simp only []; rw [if_pos c_22]; exact bq_ret_i) | (unfold b_ahead b_ahead2; rw [r_1, r_6]; simp only []; rw [if_neg c_22, if_pos c_49]; exact bq_ret_i) | (unfold b_ahead b_ahead2; rw [r_1, r_6]; simp only []; rw [if_neg c_22, if_neg c_49]; exact bq_ret_i) | (unfold b_ahead b_ahead2; rw [r_1, r_6]; simp only []; rw [if_neg c_22]; exact bq_ret_i) | (unfold b_ahead b_ahead2; rw [r_1, r_6]; simp only []; rw [if_pos c_49]; exact bq_ret_i) | (unfold b_ahead b_ahead2; rw [r_1, r_6]; simp only []; rw [if_neg c_49]; exact bq_ret_i) | (unfold b_ahead b_ahead2; rw [r_1, r_6]; exact bq_ret_i))
      · refine bq_aload_n (i := 2) dX4_aheadOnPath_25 rfl ?_
        exact bq_aret dX4_aheadOnPath_26 rfl (by first | (unfold b_ahead; rw [r_1]; simp only []; rw [if_pos c_22]; exact bq_ret_i) | (unfold b_ahead b_ahead2; rw [r_1, r_6]; simp only []; rw [if_neg c_22, if_pos c_49]; exact bq_ret_i) | (unfold b_ahead b_ahead2; rw [r_1, r_6]; simp only []; rw [if_neg c_22, if_neg c_49]; exact bq_ret_i) | (unfold b_ahead b_ahead2; rw [r_1, r_6]; simp only []; rw [if_neg c_22]; exact bq_ret_i) | (unfold b_ahead b_ahead2; rw [r_1, r_6]; simp only []; rw [if_pos c_49]; exact bq_ret_i) | (unfold b_ahead b_ahead2; rw [r_1, r_6]; simp only []; rw [if_neg c_49]; exact bq_ret_i) | (unfold b_ahead b_ahead2; rw [r_1, r_6]; exact bq_ret_i))
set_option maxRecDepth 100000 in
set_option maxHeartbeats 400000 in
theorem c_lastO_l {G : bp_X} {α : bt_A} {σ x : bt_X} {Φ : bp_O → bq_O → Prop} {j n : Nat} (J : bt_J α σ x) (hj : bt_V α 0 j) (hpl : ¬ σ.1 0 j 3 = 0) (hlen : (σ.2.2 (8 + j)).length ≤ 33) (os : List Nat) : ∀ (k : Nat), k ≤ 33 → (σ.2.2 (8 + j)).drop k = os →
    (∀ i, b_lastO x os = some i → Φ (.inl (some (.ref (bt_ad α 2 i)))) (bt α σ x)) → (b_lastO x os = none → bq_W G mX4_lastOfPath 3 84 [(0, .ref (bt_ad α 4 0)), (1, .int (nI n))] [] (bt α σ x) Φ) →
    bq_W G mX4_lastOfPath 3 27 [(0, .ref (bt_ad α 4 0)), (1, .int (nI n)), (2, .ref (bt_ad α 0 j)), (3, .int (nI k))] [] (bt α σ x) Φ := by
  induction os with
  | nil =>
    intro k hk hd ks kn
    refine bq_aload_n (i := 2) dX4_lastOfPath_27 rfl ?_
    refine bt_get4 dX4_lastOfPath_28 fl_X4_167 (by first | assumption | exact J.v3 | exact J.v4 | exact J.v5 | exact J.v6 | exact J.l0 | exact J.l1 | exact J.l2 | exact J.l3 | exact J.row (by assumption) | exact J.ops (by assumption) | exact J.job (by assumption)) rfl (by decide) ?_
    refine bq_if_eq (tgt := 84) dX4_lastOfPath_31 (by decide) (fun z9_ => absurd z9_ hpl) (fun c_31 => ?_)
    refine bq_iload_n (i := 3) dX4_lastOfPath_34 rfl ?_
    refine bq_aload_n (i := 2) dX4_lastOfPath_35 rfl ?_
    refine bt_get3 (c' := 7) (n := (8 + j)) dX4_lastOfPath_36 fl_X4_171 (by first | assumption | exact J.v3 | exact J.v4 | exact J.v5 | exact J.v6 | exact J.l0 | exact J.l1 | exact J.l2 | exact J.l3 | exact J.row (by assumption) | exact J.ops (by assumption) | exact J.job (by assumption)) ⟨rfl, rfl, rfl⟩ (by decide) ?_
    refine bt_size dX4_lastOfPath_39 ml_X4_45 (by first | assumption | exact J.v3 | exact J.v4 | exact J.v5 | exact J.v6 | exact J.l0 | exact J.l1 | exact J.l2 | exact J.l3 | exact J.row (by assumption) | exact J.ops (by assumption) | exact J.job (by assumption)) (bt_ls bt_sl_ops) (by decide) (Nat.le_of_ble_eq_true rfl) ?_
    refine bq_icmp_ge (tgt := 84) dX4_lastOfPath_42 (by decide) (fun c_42 => ?_) (fun z9_ => absurd (show nI (σ.2.2 (8 + j)).length ≤ nI k from nI_le (b_drop0 hd) (by omega)) z9_)
    refine bq_lvs (lv' := [(0, .ref (bt_ad α 4 0)), (1, .int (nI n))]) ⟨rfl, rfl, trivial⟩ ?_
    exact kn rfl
  | cons i os ih =>
    intro k hk hd ks kn
    obtain ⟨hi, hd1, hk1⟩ := b_dropc hd
    unfold b_lastO at ks kn
    refine bq_aload_n (i := 2) dX4_lastOfPath_27 rfl ?_
    refine bt_get4 dX4_lastOfPath_28 fl_X4_167 (by first | assumption | exact J.v3 | exact J.v4 | exact J.v5 | exact J.v6 | exact J.l0 | exact J.l1 | exact J.l2 | exact J.l3 | exact J.row (by assumption) | exact J.ops (by assumption) | exact J.job (by assumption)) rfl (by decide) ?_
    refine bq_if_eq (tgt := 84) dX4_lastOfPath_31 (by decide) (fun z9_ => absurd z9_ hpl) (fun c_31 => ?_)
    refine bq_iload_n (i := 3) dX4_lastOfPath_34 rfl ?_
    refine bq_aload_n (i := 2) dX4_lastOfPath_35 rfl ?_
    refine bt_get3 (c' := 7) (n := (8 + j)) dX4_lastOfPath_36 fl_X4_171 (by first | assumption | exact J.v3 | exact J.v4 | exact J.v5 | exact J.v6 | exact J.l0 | exact J.l1 | exact J.l2 | exact J.l3 | exact J.row (by assumption) | exact J.ops (by assumption) | exact J.job (by assumption)) ⟨rfl, rfl, rfl⟩ (by decide) ?_
    refine bt_size dX4_lastOfPath_39 ml_X4_45 (by first | assumption | exact J.v3 | exact J.v4 | exact J.v5 | exact J.v6 | exact J.l0 | exact J.l1 | exact J.l2 | exact J.l3 | exact J.row (by assumption) | exact J.ops (by assumption) | exact J.job (by assumption)) (bt_ls bt_sl_ops) (by decide) (Nat.le_of_ble_eq_true rfl) ?_
    refine bq_icmp_ge (tgt := 84) dX4_lastOfPath_42 (by decide) (fun z9_ => absurd z9_ (show ¬ nI (σ.2.2 (8 + j)).length ≤ nI k from nI_ge hk1 (by omega))) (fun c_42 => ?_)
    refine bq_aload_n (i := 2) dX4_lastOfPath_45 rfl ?_
    refine bt_get3 (c' := 7) (n := (8 + j)) dX4_lastOfPath_46 fl_X4_171 (by first | assumption | exact J.v3 | exact J.v4 | exact J.v5 | exact J.v6 | exact J.l0 | exact J.l1 | exact J.l2 | exact J.l3 | exact J.row (by assumption) | exact J.ops (by assumption) | exact J.job (by assumption)) ⟨rfl, rfl, rfl⟩ (by decide) ?_
    refine bq_iload_n (i := 3) dX4_lastOfPath_49 rfl ?_
    refine bt_geti (j := k) (y := i) (c' := 2) dX4_lastOfPath_50 ml_X4_72 (by first | assumption | exact J.v3 | exact J.v4 | exact J.v5 | exact J.v6 | exact J.l0 | exact J.l1 | exact J.l2 | exact J.l3 | exact J.row (by assumption) | exact J.ops (by assumption) | exact J.job (by assumption)) (bt_ls bt_sl_ops) rfl hi bt_lc_ops (by decide) (Nat.le_of_ble_eq_true rfl) (fun v_50 => ?_)
    refine bt_cast (c := 2) dX4_lastOfPath_53 rfl cl_X4_35 (by first | assumption | exact J.v3 | exact J.v4 | exact J.v5 | exact J.v6 | exact J.l0 | exact J.l1 | exact J.l2 | exact J.l3 | exact J.row (by assumption) | exact J.ops (by assumption) | exact J.job (by assumption)) (by decide) ?_
    refine bt_get0 dX4_lastOfPath_56 fl_X4_107 (by first | assumption | exact J.v3 | exact J.v4 | exact J.v5 | exact J.v6 | exact J.l0 | exact J.l1 | exact J.l2 | exact J.l3 | exact J.row (by assumption) | exact J.ops (by assumption) | exact J.job (by assumption)) rfl (by decide) ?_
    refine bq_aload_n (i := 0) dX4_lastOfPath_59 rfl ?_
    refine bt_get0 dX4_lastOfPath_60 fl_X4_58 (by first | assumption | exact J.v3 | exact J.v4 | exact J.v5 | exact J.v6 | exact J.l0 | exact J.l1 | exact J.l2 | exact J.l3 | exact J.row (by assumption) | exact J.ops (by assumption) | exact J.job (by assumption)) rfl (by decide) ?_
    refine bq_icmp_ne (tgt := 78) dX4_lastOfPath_63 (by decide) (fun c_63 => ?_) (fun c_63 => ?_)
    · rw [if_neg c_63] at ks kn
      refine bq_iinc dX4_lastOfPath_78 rfl (by decide) (by first | exact bp_inc _ | rfl) ?_
      refine bq_goto (tgt := 27) dX4_lastOfPath_81 (by decide) ?_
      refine bq_lvs (lv' := [(0, .ref (bt_ad α 4 0)), (1, .int (nI n)), (2, .ref (bt_ad α 0 j)), (3, .int (nI (k + 1)))]) ⟨rfl, rfl, rfl, rfl, trivial⟩ ?_
      exact ih (k + 1) (by omega) hd1 ks kn
    · rw [if_pos c_63] at ks kn
      refine bq_aload_n (i := 2) dX4_lastOfPath_66 rfl ?_
      refine bt_get3 (c' := 7) (n := (8 + j)) dX4_lastOfPath_67 fl_X4_171 (by first | assumption | exact J.v3 | exact J.v4 | exact J.v5 | exact J.v6 | exact J.l0 | exact J.l1 | exact J.l2 | exact J.l3 | exact J.row (by assumption) | exact J.ops (by assumption) | exact J.job (by assumption)) ⟨rfl, rfl, rfl⟩ (by decide) ?_
      refine bq_iload_n (i := 3) dX4_lastOfPath_70 rfl ?_
      refine bt_geti (j := k) (y := i) (c' := 2) dX4_lastOfPath_71 ml_X4_72 (by first | assumption | exact J.v3 | exact J.v4 | exact J.v5 | exact J.v6 | exact J.l0 | exact J.l1 | exact J.l2 | exact J.l3 | exact J.row (by assumption) | exact J.ops (by assumption) | exact J.job (by assumption)) (bt_ls bt_sl_ops) rfl hi bt_lc_ops (by decide) (Nat.le_of_ble_eq_true rfl) (fun v_71 => ?_)
      refine bt_cast (c := 2) dX4_lastOfPath_74 rfl cl_X4_35 (by first | assumption | exact J.v3 | exact J.v4 | exact J.v5 | exact J.v6 | exact J.l0 | exact J.l1 | exact J.l2 | exact J.l3 | exact J.row (by assumption) | exact J.ops (by assumption) | exact J.job (by assumption)) (by decide) ?_
      exact bq_aret dX4_lastOfPath_77 rfl (ks i rfl)
set_option maxRecDepth 100000 in
set_option maxHeartbeats 400000 in
theorem c_lastJ_l {G : bp_X} {α : bt_A} {σ x : bt_X} (J : bt_J α σ x) (h1 : (σ.2.2 1).length ≤ 8) (hlen : ∀ j ∈ σ.2.2 1, (σ.2.2 (8 + j)).length ≤ 33) (L : List Nat) : ∀ (n : Nat), n ≤ 9 → (σ.2.2 1).drop n = L →
    bq_W G mX4_lastOfPath 3 2 [(0, .ref (bt_ad α 4 0)), (1, .int (nI n))] [] (bt α σ x) (bq_ret (some (b_rv α (b_lastJ σ x L))) (bt α σ x)) := by
  induction L with
  | nil =>
    intro n hn hd
    unfold b_lastJ
    refine bq_iload_n (i := 1) dX4_lastOfPath_2 rfl ?_
    refine bq_aload_n (i := 0) dX4_lastOfPath_3 rfl ?_
    refine bt_get3 (c' := 7) (n := 1) dX4_lastOfPath_4 fl_X4_18 (by first | assumption | exact J.v3 | exact J.v4 | exact J.v5 | exact J.v6 | exact J.l0 | exact J.l1 | exact J.l2 | exact J.l3 | exact J.row (by assumption) | exact J.ops (by assumption) | exact J.job (by assumption)) ⟨rfl, rfl, rfl⟩ (by decide) ?_
    refine bt_size dX4_lastOfPath_7 ml_X4_45 (by first | assumption | exact J.v3 | exact J.v4 | exact J.v5 | exact J.v6 | exact J.l0 | exact J.l1 | exact J.l2 | exact J.l3 | exact J.row (by assumption) | exact J.ops (by assumption) | exact J.job (by assumption)) rfl (by decide) (Nat.le_of_ble_eq_true rfl) ?_
    refine bq_icmp_ge (tgt := 90) dX4_lastOfPath_10 (by decide) (fun c_10 => ?_) (fun z9_ => absurd (show nI (σ.2.2 1).length ≤ nI n from nI_le (b_drop0 hd) (by omega)) z9_)
    refine bq_null dX4_lastOfPath_90 ?_
    exact bq_aretN dX4_lastOfPath_91 rfl bq_ret_i
  | cons j L ih =>
    intro n hn hd
    obtain ⟨hy, hd1, hn1⟩ := b_dropc hd
    have hmem : j ∈ σ.2.2 1 := List.mem_of_getElem? hy
    unfold b_lastJ
    refine bq_iload_n (i := 1) dX4_lastOfPath_2 rfl ?_
    refine bq_aload_n (i := 0) dX4_lastOfPath_3 rfl ?_
    refine bt_get3 (c' := 7) (n := 1) dX4_lastOfPath_4 fl_X4_18 (by first | assumption | exact J.v3 | exact J.v4 | exact J.v5 | exact J.v6 | exact J.l0 | exact J.l1 | exact J.l2 | exact J.l3 | exact J.row (by assumption) | exact J.ops (by assumption) | exact J.job (by assumption)) ⟨rfl, rfl, rfl⟩ (by decide) ?_
    refine bt_size dX4_lastOfPath_7 ml_X4_45 (by first | assumption | exact J.v3 | exact J.v4 | exact J.v5 | exact J.v6 | exact J.l0 | exact J.l1 | exact J.l2 | exact J.l3 | exact J.row (by assumption) | exact J.ops (by assumption) | exact J.job (by assumption)) rfl (by decide) (Nat.le_of_ble_eq_true rfl) ?_
    refine bq_icmp_ge (tgt := 90) dX4_lastOfPath_10 (by decide) (fun z9_ => absurd z9_ (show ¬ nI (σ.2.2 1).length ≤ nI n from nI_ge hn1 (by omega))) (fun c_10 => ?_)
    refine bq_aload_n (i := 0) dX4_lastOfPath_13 rfl ?_
    refine bt_get3 (c' := 7) (n := 1) dX4_lastOfPath_14 fl_X4_18 (by first | assumption | exact J.v3 | exact J.v4 | exact J.v5 | exact J.v6 | exact J.l0 | exact J.l1 | exact J.l2 | exact J.l3 | exact J.row (by assumption) | exact J.ops (by assumption) | exact J.job (by assumption)) ⟨rfl, rfl, rfl⟩ (by decide) ?_
    refine bq_iload_n (i := 1) dX4_lastOfPath_17 rfl ?_
    refine bt_geti (j := n) (y := j) (c' := 0) dX4_lastOfPath_18 ml_X4_72 (by first | assumption | exact J.v3 | exact J.v4 | exact J.v5 | exact J.v6 | exact J.l0 | exact J.l1 | exact J.l2 | exact J.l3 | exact J.row (by assumption) | exact J.ops (by assumption) | exact J.job (by assumption)) rfl rfl hy rfl (by decide) (Nat.le_of_ble_eq_true rfl) (fun v_18 => ?_)
    refine bt_cast (c := 0) dX4_lastOfPath_21 rfl cl_X4_83 (by first | assumption | exact J.v3 | exact J.v4 | exact J.v5 | exact J.v6 | exact J.l0 | exact J.l1 | exact J.l2 | exact J.l3 | exact J.row (by assumption) | exact J.ops (by assumption) | exact J.job (by assumption)) (by decide) ?_
    refine bq_astore_n (i := 2) dX4_lastOfPath_24 (by decide) ?_
    refine bq_iconst (v := (nI 0)) dX4_lastOfPath_25 (by decide) ?_
    refine bq_istore_n (i := 3) dX4_lastOfPath_26 (by decide) ?_
    by_cases hpl : σ.1 0 j 3 = 0
    · rw [if_pos hpl]
      refine bq_aload_n (i := 2) dX4_lastOfPath_27 rfl ?_
      refine bt_get4 dX4_lastOfPath_28 fl_X4_167 (by first | assumption | exact J.v3 | exact J.v4 | exact J.v5 | exact J.v6 | exact J.l0 | exact J.l1 | exact J.l2 | exact J.l3 | exact J.row (by assumption) | exact J.ops (by assumption) | exact J.job (by assumption)) rfl (by decide) ?_
      refine bq_if_eq (tgt := 84) dX4_lastOfPath_31 (by decide) (fun c_31 => ?_) (fun z9_ => absurd hpl z9_)
      refine bq_iinc dX4_lastOfPath_84 rfl (by decide) (bp_inc _) ?_
      refine bq_goto (tgt := 2) dX4_lastOfPath_87 (by decide) ?_
      refine bq_lvs (lv' := [(0, .ref (bt_ad α 4 0)), (1, .int (nI (n + 1)))]) ⟨rfl, rfl, trivial⟩ ?_
      exact ih (n + 1) (by omega) hd1
    · rw [if_neg hpl]
      refine bq_lvs (lv' := [(0, .ref (bt_ad α 4 0)), (1, .int (nI n)), (2, .ref (bt_ad α 0 j)), (3, .int (nI 0))]) ⟨rfl, rfl, rfl, rfl, trivial⟩ ?_
      refine c_lastO_l J v_18 hpl (hlen j hmem) _ 0 (by omega) rfl (fun i e => ?_) (fun e => ?_)
      · rw [show b_lastO x (σ.2.2 (8 + j)) = some i from e]; exact bq_ret_i
      · rw [show b_lastO x (σ.2.2 (8 + j)) = none from e]
        simp only []
        refine bq_iinc dX4_lastOfPath_84 rfl (by decide) (bp_inc _) ?_
        refine bq_goto (tgt := 2) dX4_lastOfPath_87 (by decide) ?_
        refine bq_lvs (lv' := [(0, .ref (bt_ad α 4 0)), (1, .int (nI (n + 1)))]) ⟨rfl, rfl, trivial⟩ ?_
        exact ih (n + 1) (by omega) hd1
set_option maxRecDepth 100000 in
set_option maxHeartbeats 400000 in
theorem c_last {G : bp_X} {α : bt_A} {σ x : bt_X} (J : bt_J α σ x) (h1 : (σ.2.2 1).length ≤ 8) (hlen : ∀ j ∈ σ.2.2 1, (σ.2.2 (8 + j)).length ≤ 33) : bq_S G mX4_lastOfPath 3 [.ref (bt_ad α 4 0)] (bt α σ x) (bq_ret (some (b_rv α (b_lastJ σ x (σ.2.2 1)))) (bt α σ x)) := by
  refine bq_ofW (by decide +kernel) rfl (Nat.le_of_ble_eq_true rfl) ?_
  refine bq_iconst (v := (nI 0)) dX4_lastOfPath_0 (by decide) ?_
  refine bq_istore_n (i := 1) dX4_lastOfPath_1 (by decide) ?_
  refine bq_lvs (lv' := [(0, .ref (bt_ad α 4 0)), (1, .int (nI 0))]) ⟨rfl, rfl, trivial⟩ ?_
  exact c_lastJ_l J h1 hlen _ 0 (by omega) rfl
theorem b_lastO_mem {x : bt_X} {i : Nat} : ∀ {L : List Nat}, b_lastO x L = some i → i ∈ L := by
  intro L
  induction L with
  | nil => intro h; cases h
  | cons a L ih =>
    intro h
    unfold b_lastO at h
    by_cases c : x.1 2 a 11 = x.1 4 0 5
    · rw [if_pos c] at h; cases h; exact List.mem_cons_self
    · rw [if_neg c] at h; exact List.mem_cons_of_mem _ (ih h)
theorem b_lastJ_mem {σ x : bt_X} {i : Nat} : ∀ {L : List Nat}, b_lastJ σ x L = some i → ∃ j ∈ L, i ∈ σ.2.2 (8 + j) := by
  intro L
  induction L with
  | nil => intro h; cases h
  | cons a L ih =>
    intro h
    unfold b_lastJ at h
    have nx : b_lastJ σ x L = some i → ∃ j ∈ a :: L, i ∈ σ.2.2 (8 + j) := fun z => by
      obtain ⟨j, h1, h2⟩ := ih z
      exact ⟨j, List.mem_cons_of_mem _ h1, h2⟩
    by_cases c : σ.1 0 a 3 = 0
    · rw [if_pos c] at h; exact nx h
    · rw [if_neg c] at h
      cases e : b_lastO x (σ.2.2 (8 + a)) with
      | none => rw [e] at h; exact nx h
      | some y => rw [e] at h; cases h; exact ⟨a, List.mem_cons_self, b_lastO_mem e⟩
theorem b_ahead_V {α : bt_A} {σ x : bt_X} {i a : Nat} (J : bt_J α σ x) (hO : bt_V α 2 i) (h : b_ahead σ x i = some a) : bt_V α 2 a := by
  have h2 : b_ahead2 σ x i = some a → bt_V α 2 a := fun z => by
    unfold b_ahead2 at z
    cases e : x.2.1 2 i 8 with
    | none => rw [e] at z; cases z
    | some b =>
      rw [e] at z
      simp only [] at z
      by_cases c : x.1 2 b 11 + b_bet σ (some b) i = x.1 2 i 10
      · rw [if_pos c] at z; cases z; exact J.lnk8 hO e
      · rw [if_neg c] at z; cases z
  unfold b_ahead at h
  cases e : σ.2.1 2 i 6 with
  | none => rw [e] at h; exact h2 h
  | some b =>
    rw [e] at h
    simp only [] at h
    by_cases c : x.1 2 b 11 = x.1 2 i 10
    · rw [if_pos c] at h; cases h; exact J.lnk6 hO e
    · rw [if_neg c] at h; exact h2 h
theorem b_path_fr {σ : bt_X} : ∀ (n : Nat) (x : bt_X) (a : Option Nat), (b_pathL σ n x a).1 = x.1 ∧ (b_pathL σ n x a).2.1 = x.2.1 ∧ (∀ l, l ≠ 3 → (b_pathL σ n x a).2.2 l = x.2.2 l) ∧ ((b_pathL σ n x a).2.2 3).length ≤ (x.2.2 3).length + n := by
  intro n
  induction n with
  | zero => intro x a; exact ⟨rfl, rfl, fun _ _ => rfl, Nat.le_refl _⟩
  | succ n ih =>
    intro x a
    cases a with
    | none => exact ⟨rfl, rfl, fun _ _ => rfl, Nat.le_add_right _ _⟩
    | some i =>
      obtain ⟨h1, h2, h3, h4⟩ := ih (bt_lp x 3 (x.2.2 3 ++ [i])) (b_ahead σ x i)
      refine ⟨h1, h2, fun l hl => (h3 l hl).trans (if_neg hl), ?_⟩
      rw [bt_lp_at, List.length_append] at h4
      unfold b_pathL
      have : [i].length = 1 := rfl
      omega
set_option maxRecDepth 100000 in
set_option maxHeartbeats 400000 in
theorem c_path_l {G : bp_X} {α : bt_A} {σ : bt_X} : ∀ (n r : Nat) (x : bt_X) (a : Option Nat), r + n = 32 → (x.2.2 3).length = r → bt_J α σ x → (∀ i, a = some i → bt_V α 2 i) →
    bq_W G mX4_findPath 7 14 [(0, .ref (bt_ad α 4 0)), (1, b_rv α a), (2, .int (nI r))] [] (bt α σ x) (bq_ret none (bt α σ (b_pathL σ n x a))) := by
  intro n
  induction n with
  | zero =>
    intro r x a hr hl J ha
    have e : b_pathL σ 0 x a = x := rfl
    rw [e]
    refine bq_iload_n (i := 2) dX4_findPath_14 rfl ?_
    refine bq_bipush (v := (nI 32)) dX4_findPath_15 (by decide) ?_
    refine bq_icmp_ge (tgt := 45) dX4_findPath_17 (by decide) (fun c_17 => ?_) (fun z9_ => absurd (show nI 32 ≤ nI r from nI_le (by omega) (by omega)) z9_)
    exact bq_vret dX4_findPath_45 rfl bq_ret_i
  | succ n ih =>
    intro r x a hr hl J ha
    cases a with
    | none =>
      have e : b_pathL σ (n + 1) x none = x := rfl
      rw [e]
      refine bq_iload_n (i := 2) dX4_findPath_14 rfl ?_
      refine bq_bipush (v := (nI 32)) dX4_findPath_15 (by decide) ?_
      refine bq_icmp_ge (tgt := 45) dX4_findPath_17 (by decide) (fun z9_ => absurd z9_ (show ¬ nI 32 ≤ nI r from nI_ge (by omega) (by omega))) (fun c_17 => ?_)
      refine bq_aload_nN (i := 1) dX4_findPath_20 rfl ?_
      refine bq_ifnullN (tgt := 45) dX4_findPath_21 (by decide) ?_
      exact bq_vret dX4_findPath_45 rfl bq_ret_i
    | some i =>
      have hO := ha i rfl
      refine bq_iload_n (i := 2) dX4_findPath_14 rfl ?_
      refine bq_bipush (v := (nI 32)) dX4_findPath_15 (by decide) ?_
      refine bq_icmp_ge (tgt := 45) dX4_findPath_17 (by decide) (fun z9_ => absurd z9_ (show ¬ nI 32 ≤ nI r from nI_ge (by omega) (by omega))) (fun c_17 => ?_)
      refine bq_aload_n (i := 1) dX4_findPath_20 rfl ?_
      refine bq_ifnull dX4_findPath_21 ?_
      refine bq_aload_n (i := 0) dX4_findPath_24 rfl ?_
      refine bt_get3 (c' := 7) (n := 3) dX4_findPath_25 fl_X4_31 (by first | assumption | exact J.v3 | exact J.v4 | exact J.v5 | exact J.v6 | exact J.l0 | exact J.l1 | exact J.l2 | exact J.l3 | exact J.row (by assumption) | exact J.ops (by assumption) | exact J.job (by assumption)) ⟨rfl, rfl, rfl⟩ (by decide) ?_
      refine bq_aload_n (i := 1) dX4_findPath_28 rfl ?_
      refine bt_add (c := 2) dX4_findPath_29 ml_X4_126 (by first | assumption | exact J.v3 | exact J.v4 | exact J.v5 | exact J.v6 | exact J.l0 | exact J.l1 | exact J.l2 | exact J.l3 | exact J.row (by assumption) | exact J.ops (by assumption) | exact J.job (by assumption)) rfl (by first | rfl | exact rfl.symm) (by first | assumption | exact J.v3 | exact J.v4 | exact J.v5 | exact J.v6 | exact J.l0 | exact J.l1 | exact J.l2 | exact J.l3 | exact J.row (by assumption) | exact J.ops (by assumption) | exact J.job (by assumption)) (by omega) (by decide) (Nat.le_of_ble_eq_true rfl) ?_
      refine bq_pop dX4_findPath_32 rfl ?_
      refine bq_aload_n (i := 0) dX4_findPath_33 rfl ?_
      refine bq_aload_n (i := 1) dX4_findPath_34 rfl ?_
      refine bt_callVr (c := 4) (i := 0) dX4_findPath_35 rfl ml_X4_163 J.v4 (by decide) (c_ahead J.lp hO) (by decide) (by decide) (Nat.le_of_ble_eq_true rfl) rfl ?_
      have hVa : ∀ z, b_ahead σ x i = some z → bt_V α 2 z := fun z e => b_ahead_V J hO e
      obtain ⟨a2, ha2⟩ : ∃ a2, b_ahead σ x i = a2 := ⟨_, rfl⟩
      have e9 : b_pathL σ (n + 1) x (some i) = b_pathL σ n (bt_lp x 3 (x.2.2 3 ++ [i])) a2 := by rw [← ha2]; rfl
      rw [e9]
      rw [show b_ahead σ (bt_lp x 3 (x.2.2 3 ++ [i])) i = a2 from ha2]
      rw [ha2] at hVa
      obtain _ | z9 := a2
      · refine bq_astore_nq (i := 1) (r := (none : Option Nat).map (bt_ad α 2)) dX4_findPath_38 (by decide) ?_
        refine bq_iinc dX4_findPath_39 rfl (by decide) (bp_inc _) ?_
        refine bq_goto (tgt := 14) dX4_findPath_42 (by decide) ?_
        refine bq_lvs (lv' := [(0, .ref (bt_ad α 4 0)), (1, b_rv α (none)), (2, .int (nI (r + 1)))]) ⟨rfl, rfl, rfl, trivial⟩ ?_
        exact ih (r + 1) _ (none) (by omega) (by rw [bt_lp_at, List.length_append, hl]; rfl) J.lp hVa
      · refine bq_astore_nq (i := 1) (r := (some z9 : Option Nat).map (bt_ad α 2)) dX4_findPath_38 (by decide) ?_
        refine bq_iinc dX4_findPath_39 rfl (by decide) (bp_inc _) ?_
        refine bq_goto (tgt := 14) dX4_findPath_42 (by decide) ?_
        refine bq_lvs (lv' := [(0, .ref (bt_ad α 4 0)), (1, b_rv α (some z9)), (2, .int (nI (r + 1)))]) ⟨rfl, rfl, rfl, trivial⟩ ?_
        exact ih (r + 1) _ (some z9) (by omega) (by rw [bt_lp_at, List.length_append, hl]; rfl) J.lp hVa
theorem b_lastO_lp {x : bt_X} {n : Nat} {v : List Nat} : ∀ L : List Nat, b_lastO (bt_lp x n v) L = b_lastO x L := by
  intro L
  induction L with
  | nil => rfl
  | cons a L ih => unfold b_lastO; rw [ih]; rfl
theorem b_lastJ_lp {σ x : bt_X} {n : Nat} {v : List Nat} : ∀ L : List Nat, b_lastJ σ (bt_lp x n v) L = b_lastJ σ x L := by
  intro L
  induction L with
  | nil => rfl
  | cons a L ih => unfold b_lastJ; rw [ih, b_lastO_lp]
set_option maxRecDepth 100000 in
set_option maxHeartbeats 400000 in
theorem c_path {G : bp_X} {α : bt_A} {σ x : bt_X} (J : bt_J α σ x) (h1 : (σ.2.2 1).length ≤ 8) (hlen : ∀ j ∈ σ.2.2 1, (σ.2.2 (8 + j)).length ≤ 33) (hV : ∀ j ∈ σ.2.2 1, ∀ i ∈ σ.2.2 (8 + j), bt_V α 2 i) : bq_S G mX4_findPath 7 [.ref (bt_ad α 4 0)] (bt α σ x) (bq_ret none (bt α σ (b_path σ x))) := by
  refine bq_ofW (by decide +kernel) rfl (Nat.le_of_ble_eq_true rfl) ?_
  refine bq_aload_n (i := 0) dX4_findPath_0 rfl ?_
  refine bt_get3 (c' := 7) (n := 3) dX4_findPath_1 fl_X4_31 (by first | assumption | exact J.v3 | exact J.v4 | exact J.v5 | exact J.v6 | exact J.l0 | exact J.l1 | exact J.l2 | exact J.l3 | exact J.row (by assumption) | exact J.ops (by assumption) | exact J.job (by assumption)) ⟨rfl, rfl, rfl⟩ (by decide) ?_
  refine bt_clear dX4_findPath_4 ml_X4_80 (by first | assumption | exact J.v3 | exact J.v4 | exact J.v5 | exact J.v6 | exact J.l0 | exact J.l1 | exact J.l2 | exact J.l3 | exact J.row (by assumption) | exact J.ops (by assumption) | exact J.job (by assumption)) rfl (by decide) (Nat.le_of_ble_eq_true rfl) ?_
  refine bq_aload_n (i := 0) dX4_findPath_7 rfl ?_
  refine bt_callVr (c := 4) (i := 0) dX4_findPath_8 rfl ml_X4_159 (by first | assumption | exact J.v3 | exact J.v4 | exact J.v5 | exact J.v6 | exact J.l0 | exact J.l1 | exact J.l2 | exact J.l3 | exact J.row (by assumption) | exact J.ops (by assumption) | exact J.job (by assumption)) (by decide) (c_last J.lp h1 hlen) (by decide) (by decide) (Nat.le_of_ble_eq_true rfl) rfl ?_
  rw [b_lastJ_lp]
  have hVa : ∀ z, b_lastJ σ x (σ.2.2 1) = some z → bt_V α 2 z := fun z e => by obtain ⟨j, h2, h3⟩ := b_lastJ_mem e; exact hV j h2 z h3
  unfold b_path
  obtain ⟨a2, ha2⟩ : ∃ a2, b_lastJ σ x (σ.2.2 1) = a2 := ⟨_, rfl⟩
  rw [ha2] at hVa ⊢
  obtain _ | z9 := a2
  · refine bq_astore_nq (i := 1) (r := (none : Option Nat).map (bt_ad α 2)) dX4_findPath_11 (by decide) ?_
    refine bq_iconst (v := nI 0) dX4_findPath_12 (by decide) ?_
    refine bq_istore_n (i := 2) dX4_findPath_13 (by decide) ?_
    refine bq_lvs (lv' := [(0, .ref (bt_ad α 4 0)), (1, b_rv α (none)), (2, .int (nI 0))]) ⟨rfl, rfl, rfl, trivial⟩ ?_
    exact c_path_l 32 0 _ (none) rfl (by rw [bt_lp_at]; rfl) J.lp hVa
  · refine bq_astore_nq (i := 1) (r := (some z9 : Option Nat).map (bt_ad α 2)) dX4_findPath_11 (by decide) ?_
    refine bq_iconst (v := nI 0) dX4_findPath_12 (by decide) ?_
    refine bq_istore_n (i := 2) dX4_findPath_13 (by decide) ?_
    refine bq_lvs (lv' := [(0, .ref (bt_ad α 4 0)), (1, b_rv α (some z9)), (2, .int (nI 0))]) ⟨rfl, rfl, rfl, trivial⟩ ?_
    exact c_path_l 32 0 _ (some z9) rfl (by rw [bt_lp_at]; rfl) J.lp hVa

