/-! ===== the reference: machines, jobs, set-ups ===== -/
abbrev m_Rt : Type := Int32 × bt_X × bt_X
theorem m_in_s {v : Int32} {n : Nat} (hn : n < 2 ^ 31) (h : ¬ m_in v (nI 0) (nI n) = 0) : v = nI (nN v) ∧ nN v ≤ n := by
  unfold m_in at h
  by_cases c : v < nI 0
  · rw [if_pos c] at h; exact absurd rfl h
  · rw [if_neg c] at h
    by_cases d : nI n < v
    · rw [if_pos d] at h; exact absurd rfl h
    · obtain ⟨j, hj, rfl⟩ := nI_of c
      have e : nN (nI j) = j := nI_clamp hj
      rw [e]
      refine ⟨rfl, ?_⟩
      refine Nat.le_of_not_lt (fun z => d ?_)
      exact nI_lt z (by omega)
theorem m_Rw.gs {x : bt_X} (h : m_Rw x) {c i k : Nat} {v : Int32} (hc : c ≠ 8) : m_Rw (bt_gs x c i k v) := h.ext (fun i' k' _ => b_gs_ne (by omega))
theorem m_nm4 {σ : bt_X} (hN : m_Nn σ) {m : Nat} (h : m < m_nm σ) : m < 4 := by have := hN.1.l; have e : m_nm σ = nN (σ.1 6 0 1) := rfl; omega
theorem m_nj8 {σ : bt_X} (hN : m_Nn σ) {j : Nat} (h : j < m_nj σ) : j < 8 := by have := hN.2.1.l; have e : m_nj σ = nN (σ.1 6 0 7) := rfl; omega
def m_np (σ : bt_X) (j : Nat) : Nat := nN (σ.1 8 19 j)
theorem m_np_e {σ : bt_X} (hN : m_Nn σ) {j : Nat} (hj : j < 8) : σ.1 8 19 j = nI (m_np σ j) ∧ m_np σ j < 5 := hN.2.2 j hj
def m_addM (σ x : bt_X) : m_Rt := if m_nm σ = 4 then (nI 0, σ, m_thr x (nI 1)) else (nI (m_nm σ), bt_gs (bt_gs σ 8 12 (m_nm σ) (nI 4)) 6 0 1 (nI (m_nm σ + 1)), m_thr x (nI 0))
set_option maxRecDepth 100000 in
set_option maxHeartbeats 400000 in
theorem n_addM {G : bp_X} {α : bt_A} {σ x : bt_X}  (J : m_J α) (hN : m_Nn σ) : bq_S G mX6_addMachine 0 [.ref (bt_ad α 6 0)] (bt α σ x) (bq_ret (some (.int (m_addM σ x).1)) (bt α (m_addM σ x).2.1 (m_addM σ x).2.2)) := by
  refine bq_ofW (by decide +kernel) rfl (Nat.le_of_ble_eq_true rfl) ?_
  have en : σ.1 6 0 1 = nI (m_nm σ) := hN.1.e
  have hl : m_nm σ < 5 := hN.1.l
  by_cases h4 : m_nm σ = 4
  · rw [show m_addM σ x = (nI 0, σ, m_thr x (nI 1)) from if_pos h4]
    refine bq_aload_n (i := 0) dX6_addMachine_0 rfl ?_
    refine bq_aload_n (i := 0) dX6_addMachine_1 rfl ?_
    refine bt_get4 dX6_addMachine_2 fl_X6_78 (by first | assumption | exact J.v3 | exact J.v4 | exact J.v5 | exact J.v6 | exact J.l0 | exact J.l1 | exact J.l2 | exact J.l3 | exact J.row (by assumption) | exact J.ops (by assumption) | exact J.job (by assumption)) rfl (by decide) ?_
    rw [en]
    refine bq_iconst (v := (nI 4)) dX6_addMachine_5 (by decide) ?_
    refine bq_icmp_ne (tgt := 13) dX6_addMachine_6 (by decide) (fun z9_ => absurd (show nI (m_nm σ) = nI 4 by rw [h4]) z9_) (fun c_6 => ?_)
    refine bq_iconst (v := (nI 1)) dX6_addMachine_9 (by decide) ?_
    refine bq_goto (tgt := 14) dX6_addMachine_10 (by decide) ?_
    refine bt_put0 dX6_addMachine_14 fl_X6_74 (by first | assumption | exact J.v3 | exact J.v4 | exact J.v5 | exact J.v6 | exact J.l0 | exact J.l1 | exact J.l2 | exact J.l3 | exact J.row (by assumption) | exact J.ops (by assumption) | exact J.job (by assumption)) rfl (by decide) (by first | rfl | decide) (by first | rfl | decide) ?_
    refine bq_aload_n (i := 0) dX6_addMachine_17 rfl ?_
    refine bt_get0 dX6_addMachine_18 fl_X6_74 (by first | assumption | exact J.v3 | exact J.v4 | exact J.v5 | exact J.v6 | exact J.l0 | exact J.l1 | exact J.l2 | exact J.l3 | exact J.row (by assumption) | exact J.ops (by assumption) | exact J.job (by assumption)) rfl (by decide) ?_
    rw [b_gs_at]
    refine bq_if_le (tgt := 26) dX6_addMachine_21 (by decide) (fun z9_ => absurd z9_ (show ¬ nI 1 ≤ 0 by decide)) (fun c_21 => ?_)
    refine bq_iconst (v := (nI 0)) dX6_addMachine_24 (by decide) ?_
    exact bq_iret dX6_addMachine_25 rfl (by first | rfl | decide) bq_ret_i
  · rw [show m_addM σ x = (nI (m_nm σ), bt_gs (bt_gs σ 8 12 (m_nm σ) (nI 4)) 6 0 1 (nI (m_nm σ + 1)), m_thr x (nI 0)) from if_neg h4]
    refine bq_aload_n (i := 0) dX6_addMachine_0 rfl ?_
    refine bq_aload_n (i := 0) dX6_addMachine_1 rfl ?_
    refine bt_get4 dX6_addMachine_2 fl_X6_78 (by first | assumption | exact J.v3 | exact J.v4 | exact J.v5 | exact J.v6 | exact J.l0 | exact J.l1 | exact J.l2 | exact J.l3 | exact J.row (by assumption) | exact J.ops (by assumption) | exact J.job (by assumption)) rfl (by decide) ?_
    rw [en]
    refine bq_iconst (v := (nI 4)) dX6_addMachine_5 (by decide) ?_
    refine bq_icmp_ne (tgt := 13) dX6_addMachine_6 (by decide) (fun c_6 => ?_) (fun z9_ => absurd z9_ (show ¬ nI (m_nm σ) = nI 4 from fun z => h4 ((nI_eq (by omega) (by omega)).mp z)))
    refine bq_iconst (v := (nI 0)) dX6_addMachine_13 (by decide) ?_
    refine bt_put0 dX6_addMachine_14 fl_X6_74 (by first | assumption | exact J.v3 | exact J.v4 | exact J.v5 | exact J.v6 | exact J.l0 | exact J.l1 | exact J.l2 | exact J.l3 | exact J.row (by assumption) | exact J.ops (by assumption) | exact J.job (by assumption)) rfl (by decide) (by first | rfl | decide) (by first | rfl | decide) ?_
    refine bq_aload_n (i := 0) dX6_addMachine_17 rfl ?_
    refine bt_get0 dX6_addMachine_18 fl_X6_74 (by first | assumption | exact J.v3 | exact J.v4 | exact J.v5 | exact J.v6 | exact J.l0 | exact J.l1 | exact J.l2 | exact J.l3 | exact J.row (by assumption) | exact J.ops (by assumption) | exact J.job (by assumption)) rfl (by decide) ?_
    rw [b_gs_at]
    refine bq_if_le (tgt := 26) dX6_addMachine_21 (by decide) (fun c_21 => ?_) (fun z9_ => absurd (show nI 0 ≤ 0 by decide) z9_)
    refine bq_aload_n (i := 0) dX6_addMachine_26 rfl ?_
    refine bt_get3 (c' := 8) (n := 12) dX6_addMachine_27 fl_X6_7 (by first | assumption | exact J.v3 | exact J.v4 | exact J.v5 | exact J.v6 | exact J.l0 | exact J.l1 | exact J.l2 | exact J.l3 | exact J.row (by assumption) | exact J.ops (by assumption) | exact J.job (by assumption)) ⟨rfl, rfl, rfl⟩ (by decide) ?_
    refine bq_aload_n (i := 0) dX6_addMachine_30 rfl ?_
    refine bt_get4 dX6_addMachine_31 fl_X6_78 (by first | assumption | exact J.v3 | exact J.v4 | exact J.v5 | exact J.v6 | exact J.l0 | exact J.l1 | exact J.l2 | exact J.l3 | exact J.row (by assumption) | exact J.ops (by assumption) | exact J.job (by assumption)) rfl (by decide) ?_
    rw [en]
    refine bq_iconst (v := (nI 4)) dX6_addMachine_34 (by decide) ?_
    refine bt_iast4 (n := 12) (j := (m_nm σ)) dX6_addMachine_35 J.a12 rfl (by omega) (by decide) rfl ?_
    refine bq_aload_n (i := 0) dX6_addMachine_36 rfl ?_
    refine bq_dup dX6_addMachine_37 rfl ?_
    refine bt_get4 dX6_addMachine_38 fl_X6_78 (by first | assumption | exact J.v3 | exact J.v4 | exact J.v5 | exact J.v6 | exact J.l0 | exact J.l1 | exact J.l2 | exact J.l3 | exact J.row (by assumption) | exact J.ops (by assumption) | exact J.job (by assumption)) rfl (by decide) ?_
    rw [b_gs_ne (by omega), en]
    refine bq_iconst (v := (nI 1)) dX6_addMachine_41 (by decide) ?_
    refine bq_iadd dX6_addMachine_42 ?_
    rw [nI_add]
    refine bt_put4 dX6_addMachine_43 fl_X6_78 (by first | assumption | exact J.v3 | exact J.v4 | exact J.v5 | exact J.v6 | exact J.l0 | exact J.l1 | exact J.l2 | exact J.l3 | exact J.row (by assumption) | exact J.ops (by assumption) | exact J.job (by assumption)) rfl (by decide) (by first | rfl | decide) (by first | rfl | decide) ?_
    refine bq_aload_n (i := 0) dX6_addMachine_46 rfl ?_
    refine bt_get4 dX6_addMachine_47 fl_X6_78 (by first | assumption | exact J.v3 | exact J.v4 | exact J.v5 | exact J.v6 | exact J.l0 | exact J.l1 | exact J.l2 | exact J.l3 | exact J.row (by assumption) | exact J.ops (by assumption) | exact J.job (by assumption)) rfl (by decide) ?_
    rw [b_gs_at]
    refine bq_iconst (v := (nI 1)) dX6_addMachine_50 (by decide) ?_
    refine bq_isub dX6_addMachine_51 ?_
    rw [pk_sub (by omega), Nat.add_sub_cancel]
    exact bq_iret dX6_addMachine_52 rfl (by first | rfl | decide) bq_ret_i
def m_one (σ : bt_X) (p : Nat) : Int32 := if nI (m_nj σ) ≤ nI (p / 4) then nI 0 else if nI (m_np σ (p / 4)) ≤ nI (p % 4) then nI 0 else nI 1
noncomputable def m_sv (σ : bt_X) (m : Nat) (c : Int32) (p : Nat) (v t : Int32) : Int32 := if v = 0 then t else if σ.1 8 21 p = nI m then (if m_count (σ.1 8 24 p) ≤ c then t else nI 3) else t
noncomputable def m_sml2 (σ : bt_X) (m : Nat) (c : Int32) : Nat → Nat → bt_X → bt_X
  | 0, _, x => x
  | n + 1, p, x => m_sml2 σ m c n (p + 1) (m_thr x (m_sv σ m c p (m_one σ p) (x.1 6 0 0)))
noncomputable def m_smx (σ x : bt_X) (m : Nat) (c : Int32) : bt_X := m_sml2 σ m c m_32 0 (m_thr x (nI 0))
noncomputable def m_setMag (σ x : bt_X) (a c : Int32) : m_Rt := match b_ix (m_nm σ) a with
  | none => (nI 0, σ, m_thr x (nI 1))
  | some m => if m_in c (nI 1) (nI 8) = 0 then (nI 0, σ, m_thr x (nI 2)) else
      if (m_smx σ x m c).1 6 0 0 ≤ 0 then (σ.1 8 12 m, bt_gs σ 8 12 m c, m_smx σ x m c) else (nI 0, σ, m_smx σ x m c)
set_option maxRecDepth 100000 in
set_option maxHeartbeats 400000 in
theorem n_smv {G : bp_X} {α : bt_A} {σ x : bt_X} (J : m_J α) {Φ : bp_O → bq_O → Prop} {m p : Nat} {c v : Int32} (hp : p < 32) (kk : bq_W G mX6_setMagazine 2 42 [(0, .ref (bt_ad α 6 0)), (1, .int (nI m)), (2, .int c), (3, .int (nI (p + 1)))] [] (bt α σ (m_thr x (m_sv σ m c p v (x.1 6 0 0)))) Φ) : bq_W G mX6_setMagazine 2 79 [(0, .ref (bt_ad α 6 0)), (1, .int (nI m)), (2, .int c), (3, .int (nI p)), (4, .int v)] [] (bt α σ x) Φ := by
  unfold m_sv at kk
  refine bq_aload_n (i := 0) dX6_setMagazine_79 rfl ?_
  refine bq_iload (i := 4) dX6_setMagazine_80 rfl ?_
  refine bq_if_eq (tgt := 112) dX6_setMagazine_82 (by decide) (fun c_82 => ?_) (fun c_82 => ?_)
  · rw [if_pos c_82] at kk
    refine bq_aload_n (i := 0) dX6_setMagazine_112 rfl ?_
    refine bt_get0 dX6_setMagazine_113 fl_X6_74 (by first | assumption | exact J.v3 | exact J.v4 | exact J.v5 | exact J.v6 | exact J.l0 | exact J.l1 | exact J.l2 | exact J.l3 | exact J.row (by assumption) | exact J.ops (by assumption) | exact J.job (by assumption)) rfl (by decide) ?_
    refine bt_put0 dX6_setMagazine_116 fl_X6_74 (by first | assumption | exact J.v3 | exact J.v4 | exact J.v5 | exact J.v6 | exact J.l0 | exact J.l1 | exact J.l2 | exact J.l3 | exact J.row (by assumption) | exact J.ops (by assumption) | exact J.job (by assumption)) rfl (by decide) (by first | rfl | decide) (by first | rfl | decide) ?_
    refine bq_iinc dX6_setMagazine_119 rfl (by decide) (by first | exact bp_inc _ | rfl) ?_
    refine bq_goto (tgt := 42) dX6_setMagazine_122 (by decide) ?_
    refine bq_lvs (lv' := [(0, .ref (bt_ad α 6 0)), (1, .int (nI m)), (2, .int c), (3, .int (nI (p + 1)))]) ⟨rfl, rfl, rfl, rfl, trivial⟩ ?_
    exact kk
  · rw [if_neg c_82] at kk
    refine bq_aload_n (i := 0) dX6_setMagazine_85 rfl ?_
    refine bt_get3 (c' := 8) (n := 21) dX6_setMagazine_86 fl_X6_35 (by first | assumption | exact J.v3 | exact J.v4 | exact J.v5 | exact J.v6 | exact J.l0 | exact J.l1 | exact J.l2 | exact J.l3 | exact J.row (by assumption) | exact J.ops (by assumption) | exact J.job (by assumption)) ⟨rfl, rfl, rfl⟩ (by decide) ?_
    refine bq_iload_n (i := 3) dX6_setMagazine_89 rfl ?_
    refine bt_iald4 (n := 21) (j := p) dX6_setMagazine_90 J.a21 rfl (by omega) (by decide) rfl ?_
    refine bq_iload_n (i := 1) dX6_setMagazine_91 rfl ?_
    refine bq_icmp_ne (tgt := 112) dX6_setMagazine_92 (by decide) (fun c_92 => ?_) (fun c_92 => ?_)
    · rw [if_neg c_92] at kk
      refine bq_aload_n (i := 0) dX6_setMagazine_112 rfl ?_
      refine bt_get0 dX6_setMagazine_113 fl_X6_74 (by first | assumption | exact J.v3 | exact J.v4 | exact J.v5 | exact J.v6 | exact J.l0 | exact J.l1 | exact J.l2 | exact J.l3 | exact J.row (by assumption) | exact J.ops (by assumption) | exact J.job (by assumption)) rfl (by decide) ?_
      refine bt_put0 dX6_setMagazine_116 fl_X6_74 (by first | assumption | exact J.v3 | exact J.v4 | exact J.v5 | exact J.v6 | exact J.l0 | exact J.l1 | exact J.l2 | exact J.l3 | exact J.row (by assumption) | exact J.ops (by assumption) | exact J.job (by assumption)) rfl (by decide) (by first | rfl | decide) (by first | rfl | decide) ?_
      refine bq_iinc dX6_setMagazine_119 rfl (by decide) (by first | exact bp_inc _ | rfl) ?_
      refine bq_goto (tgt := 42) dX6_setMagazine_122 (by decide) ?_
      refine bq_lvs (lv' := [(0, .ref (bt_ad α 6 0)), (1, .int (nI m)), (2, .int c), (3, .int (nI (p + 1)))]) ⟨rfl, rfl, rfl, rfl, trivial⟩ ?_
      exact kk
    · rw [if_pos c_92] at kk
      refine bq_aload_n (i := 0) dX6_setMagazine_95 rfl ?_
      refine bt_get3 (c' := 8) (n := 24) dX6_setMagazine_96 fl_X6_44 (by first | assumption | exact J.v3 | exact J.v4 | exact J.v5 | exact J.v6 | exact J.l0 | exact J.l1 | exact J.l2 | exact J.l3 | exact J.row (by assumption) | exact J.ops (by assumption) | exact J.job (by assumption)) ⟨rfl, rfl, rfl⟩ (by decide) ?_
      refine bq_iload_n (i := 3) dX6_setMagazine_99 rfl ?_
      refine bt_iald4 (n := 24) (j := p) dX6_setMagazine_100 J.a24 rfl (by omega) (by decide) rfl ?_
      refine bq_callSr dX6_setMagazine_101 ml_X6_124 (n_count) (by decide) (by decide) (Nat.le_of_ble_eq_true rfl) rfl ?_
      refine bq_iload_n (i := 2) dX6_setMagazine_104 rfl ?_
      refine bq_icmp_le (tgt := 112) dX6_setMagazine_105 (by decide) (fun c_105 => ?_) (fun c_105 => ?_)
      · rw [if_pos c_105] at kk
        refine bq_aload_n (i := 0) dX6_setMagazine_112 rfl ?_
        refine bt_get0 dX6_setMagazine_113 fl_X6_74 (by first | assumption | exact J.v3 | exact J.v4 | exact J.v5 | exact J.v6 | exact J.l0 | exact J.l1 | exact J.l2 | exact J.l3 | exact J.row (by assumption) | exact J.ops (by assumption) | exact J.job (by assumption)) rfl (by decide) ?_
        refine bt_put0 dX6_setMagazine_116 fl_X6_74 (by first | assumption | exact J.v3 | exact J.v4 | exact J.v5 | exact J.v6 | exact J.l0 | exact J.l1 | exact J.l2 | exact J.l3 | exact J.row (by assumption) | exact J.ops (by assumption) | exact J.job (by assumption)) rfl (by decide) (by first | rfl | decide) (by first | rfl | decide) ?_
        refine bq_iinc dX6_setMagazine_119 rfl (by decide) (by first | exact bp_inc _ | rfl) ?_
        refine bq_goto (tgt := 42) dX6_setMagazine_122 (by decide) ?_
        refine bq_lvs (lv' := [(0, .ref (bt_ad α 6 0)), (1, .int (nI m)), (2, .int c), (3, .int (nI (p + 1)))]) ⟨rfl, rfl, rfl, rfl, trivial⟩ ?_
        exact kk
      · rw [if_neg c_105] at kk
        refine bq_iconst (v := (nI 3)) dX6_setMagazine_108 (by decide) ?_
        refine bq_goto (tgt := 116) dX6_setMagazine_109 (by decide) ?_
        refine bt_put0 dX6_setMagazine_116 fl_X6_74 (by first | assumption | exact J.v3 | exact J.v4 | exact J.v5 | exact J.v6 | exact J.l0 | exact J.l1 | exact J.l2 | exact J.l3 | exact J.row (by assumption) | exact J.ops (by assumption) | exact J.job (by assumption)) rfl (by decide) (by first | rfl | decide) (by first | rfl | decide) ?_
        refine bq_iinc dX6_setMagazine_119 rfl (by decide) (by first | exact bp_inc _ | rfl) ?_
        refine bq_goto (tgt := 42) dX6_setMagazine_122 (by decide) ?_
        refine bq_lvs (lv' := [(0, .ref (bt_ad α 6 0)), (1, .int (nI m)), (2, .int c), (3, .int (nI (p + 1)))]) ⟨rfl, rfl, rfl, rfl, trivial⟩ ?_
        exact kk
set_option maxRecDepth 100000 in
set_option maxHeartbeats 400000 in
theorem n_sml2 {G : bp_X} {α : bt_A} {σ : bt_X} (J : m_J α) (hN : m_Nn σ) {Φ : bp_O → bq_O → Prop} {m : Nat} {c : Int32} : ∀ (n p : Nat) (x : bt_X), n + p = 32 → bq_W G mX6_setMagazine 2 125 [(0, .ref (bt_ad α 6 0)), (1, .int (nI m)), (2, .int c)] [] (bt α σ (m_sml2 σ m c n p x)) Φ → bq_W G mX6_setMagazine 2 42 [(0, .ref (bt_ad α 6 0)), (1, .int (nI m)), (2, .int c), (3, .int (nI p))] [] (bt α σ x) Φ := by
  have ej : σ.1 6 0 7 = nI (m_nj σ) := hN.2.1.e
  have hj9 : m_nj σ < 9 := hN.2.1.l
  intro n
  induction n with
  | zero =>
    intro p x hp kk
    unfold m_sml2 at kk
    refine bq_iload_n (i := 3) dX6_setMagazine_42 rfl ?_
    refine bq_bipush (v := (nI 32)) dX6_setMagazine_43 (by decide) ?_
    refine bq_icmp_ge (tgt := 125) dX6_setMagazine_45 (by decide) (fun c_45 => ?_) (fun z9_ => absurd (show nI 32 ≤ nI p from nI_le (by omega) (by omega)) z9_)
    refine bq_lvs (lv' := [(0, .ref (bt_ad α 6 0)), (1, .int (nI m)), (2, .int c)]) ⟨rfl, rfl, rfl, trivial⟩ ?_
    exact kk
  | succ n ih =>
    intro p x hp kk
    unfold m_sml2 at kk
    have kk2 := ih (p + 1) _ (by omega) kk
    obtain ⟨g1, g2⟩ := m_np_e hN (show p / 4 < 8 by omega)
    clear kk ih
    refine bq_iload_n (i := 3) dX6_setMagazine_42 rfl ?_
    refine bq_bipush (v := (nI 32)) dX6_setMagazine_43 (by decide) ?_
    refine bq_icmp_ge (tgt := 125) dX6_setMagazine_45 (by decide) (fun z9_ => absurd z9_ (show ¬ nI 32 ≤ nI p from nI_ge (by omega) (by omega))) (fun c_45 => ?_)
    refine bq_iload_n (i := 3) dX6_setMagazine_48 rfl ?_
    refine bq_iconst (v := (nI 4)) dX6_setMagazine_49 (by decide) ?_
    refine bq_idiv dX6_setMagazine_50 (by decide) ?_
    rw [pk_div (by omega) (by decide) (by decide)]
    refine bq_aload_n (i := 0) dX6_setMagazine_51 rfl ?_
    refine bt_get4 dX6_setMagazine_52 fl_X6_85 (by first | assumption | exact J.v3 | exact J.v4 | exact J.v5 | exact J.v6 | exact J.l0 | exact J.l1 | exact J.l2 | exact J.l3 | exact J.row (by assumption) | exact J.ops (by assumption) | exact J.job (by assumption)) rfl (by decide) ?_
    rw [ej]
    refine bq_icmp_ge (tgt := 76) dX6_setMagazine_55 (by decide) (fun c_55 => ?_) (fun c_55 => ?_)
    · rw [show m_one σ p = nI 0 from if_pos c_55] at kk2
      refine bq_iconst (v := (nI 0)) dX6_setMagazine_76 (by decide) ?_
      refine bq_istore (i := 4) dX6_setMagazine_77 (by decide) ?_
      refine bq_lvs (lv' := [(0, .ref (bt_ad α 6 0)), (1, .int (nI m)), (2, .int c), (3, .int (nI p)), (4, .int _)]) ⟨rfl, rfl, rfl, rfl, rfl, trivial⟩ ?_
      exact n_smv J (by omega) kk2
    · refine bq_iload_n (i := 3) dX6_setMagazine_58 rfl ?_
      refine bq_iconst (v := (nI 4)) dX6_setMagazine_59 (by decide) ?_
      refine bq_irem dX6_setMagazine_60 (by decide) ?_
      rw [pk_rem (by omega) (by decide) (by decide)]
      refine bq_aload_n (i := 0) dX6_setMagazine_61 rfl ?_
      refine bt_get3 (c' := 8) (n := 19) dX6_setMagazine_62 fl_X6_28 (by first | assumption | exact J.v3 | exact J.v4 | exact J.v5 | exact J.v6 | exact J.l0 | exact J.l1 | exact J.l2 | exact J.l3 | exact J.row (by assumption) | exact J.ops (by assumption) | exact J.job (by assumption)) ⟨rfl, rfl, rfl⟩ (by decide) ?_
      refine bq_iload_n (i := 3) dX6_setMagazine_65 rfl ?_
      refine bq_iconst (v := (nI 4)) dX6_setMagazine_66 (by decide) ?_
      refine bq_idiv dX6_setMagazine_67 (by decide) ?_
      rw [pk_div (by omega) (by decide) (by decide)]
      refine bt_iald4 (n := 19) (j := (p / 4)) dX6_setMagazine_68 J.a19 rfl (by omega) (by decide) rfl ?_
      rw [g1]
      refine bq_icmp_ge (tgt := 76) dX6_setMagazine_69 (by decide) (fun c_69 => ?_) (fun c_69 => ?_)
      · rw [show m_one σ p = nI 0 from (if_neg c_55).trans (if_pos c_69)] at kk2
        refine bq_iconst (v := (nI 0)) dX6_setMagazine_76 (by decide) ?_
        refine bq_istore (i := 4) dX6_setMagazine_77 (by decide) ?_
        refine bq_lvs (lv' := [(0, .ref (bt_ad α 6 0)), (1, .int (nI m)), (2, .int c), (3, .int (nI p)), (4, .int _)]) ⟨rfl, rfl, rfl, rfl, rfl, trivial⟩ ?_
        exact n_smv J (by omega) kk2
      · rw [show m_one σ p = nI 1 from (if_neg c_55).trans (if_neg c_69)] at kk2
        refine bq_iconst (v := (nI 1)) dX6_setMagazine_72 (by decide) ?_
        refine bq_goto (tgt := 77) dX6_setMagazine_73 (by decide) ?_
        refine bq_istore (i := 4) dX6_setMagazine_77 (by decide) ?_
        refine bq_lvs (lv' := [(0, .ref (bt_ad α 6 0)), (1, .int (nI m)), (2, .int c), (3, .int (nI p)), (4, .int _)]) ⟨rfl, rfl, rfl, rfl, rfl, trivial⟩ ?_
        exact n_smv J (by omega) kk2
theorem m_sml2_n {σ : bt_X} {m : Nat} {c' : Int32} {c i k : Nat} (h : ¬ (c = 6 ∧ k = 0)) : ∀ (n p : Nat) (x : bt_X), (m_sml2 σ m c' n p x).1 c i k = x.1 c i k := by
  intro n
  induction n with
  | zero => intro p x; rfl
  | succ n ih =>
    intro p x
    unfold m_sml2
    rw [ih, m_thr_n h]
theorem m_smx_n {σ x : bt_X} {m : Nat} {c' : Int32} {c i k : Nat} (h : ¬ (c = 6 ∧ k = 0)) : (m_smx σ x m c').1 c i k = x.1 c i k := by
  unfold m_smx
  rw [m_sml2_n h, m_thr_n h]
set_option maxRecDepth 100000 in
set_option maxHeartbeats 400000 in
theorem n_setMag {G : bp_X} {α : bt_A} {σ x : bt_X} {a c : Int32} (J : m_J α) (hN : m_Nn σ) : bq_S G mX6_setMagazine 2 [.ref (bt_ad α 6 0), .int a, .int c] (bt α σ x) (bq_ret (some (.int (m_setMag σ x a c).1)) (bt α (m_setMag σ x a c).2.1 (m_setMag σ x a c).2.2)) := by
  refine bq_ofW (by decide +kernel) rfl (Nat.le_of_ble_eq_true rfl) ?_
  cases e1 : b_ix (m_nm σ) a with
  | none =>
    rw [show m_setMag σ x a c = (nI 0, σ, m_thr x (nI 1)) by unfold m_setMag; rw [e1]]
    refine bq_aload_n (i := 0) dX6_setMagazine_0 rfl ?_
    refine bq_aload_n (i := 0) dX6_setMagazine_1 rfl ?_
    refine bq_iload_n (i := 1) dX6_setMagazine_2 rfl ?_
    refine bt_callVr (c := 6) (i := 0) dX6_setMagazine_3 rfl ml_X6_120 (by first | assumption | exact J.v3 | exact J.v4 | exact J.v5 | exact J.v6 | exact J.l0 | exact J.l1 | exact J.l2 | exact J.l3 | exact J.row (by assumption) | exact J.ops (by assumption) | exact J.job (by assumption)) (by decide) (n_isMachine J hN) (by decide) (by decide) (Nat.le_of_ble_eq_true rfl) rfl ?_
    rw [e1]
    refine bq_if_ne (tgt := 13) dX6_setMagazine_6 (by decide) (fun z9_ => absurd (show m_q none = 0 from rfl) z9_) (fun c_6 => ?_)
    refine bq_iconst (v := (nI 1)) dX6_setMagazine_9 (by decide) ?_
    refine bq_goto (tgt := 28) dX6_setMagazine_10 (by decide) ?_
    refine bt_put0 dX6_setMagazine_28 fl_X6_74 (by first | assumption | exact J.v3 | exact J.v4 | exact J.v5 | exact J.v6 | exact J.l0 | exact J.l1 | exact J.l2 | exact J.l3 | exact J.row (by assumption) | exact J.ops (by assumption) | exact J.job (by assumption)) rfl (by decide) (by first | rfl | decide) (by first | rfl | decide) ?_
    refine bq_aload_n (i := 0) dX6_setMagazine_31 rfl ?_
    refine bt_get0 dX6_setMagazine_32 fl_X6_74 (by first | assumption | exact J.v3 | exact J.v4 | exact J.v5 | exact J.v6 | exact J.l0 | exact J.l1 | exact J.l2 | exact J.l3 | exact J.row (by assumption) | exact J.ops (by assumption) | exact J.job (by assumption)) rfl (by decide) ?_
    rw [b_gs_at]
    refine bq_if_le (tgt := 40) dX6_setMagazine_35 (by decide) (fun z9_ => absurd z9_ (show ¬ nI 1 ≤ 0 by decide)) (fun c_35 => ?_)
    refine bq_iconst (v := (nI 0)) dX6_setMagazine_38 (by decide) ?_
    exact bq_iret dX6_setMagazine_39 rfl (by first | rfl | decide) bq_ret_i
  | some m =>
    have hb0 : m_nm σ < 9 := by have := hN.1.l; exact Nat.lt_of_lt_of_le this (by decide)
    obtain ⟨ea, hmn⟩ := m_ix_e (by omega) e1
    have hm4 := m_nm4 hN hmn
    subst ea
    by_cases hc : m_in c (nI 1) (nI 8) = 0
    · rw [show m_setMag σ x (nI m) c = (nI 0, σ, m_thr x (nI 2)) by unfold m_setMag; rw [e1]; exact if_pos hc]
      refine bq_aload_n (i := 0) dX6_setMagazine_0 rfl ?_
      refine bq_aload_n (i := 0) dX6_setMagazine_1 rfl ?_
      refine bq_iload_n (i := 1) dX6_setMagazine_2 rfl ?_
      refine bt_callVr (c := 6) (i := 0) dX6_setMagazine_3 rfl ml_X6_120 (by first | assumption | exact J.v3 | exact J.v4 | exact J.v5 | exact J.v6 | exact J.l0 | exact J.l1 | exact J.l2 | exact J.l3 | exact J.row (by assumption) | exact J.ops (by assumption) | exact J.job (by assumption)) (by decide) (n_isMachine J hN) (by decide) (by decide) (Nat.le_of_ble_eq_true rfl) rfl ?_
      rw [e1]
      refine bq_if_ne (tgt := 13) dX6_setMagazine_6 (by decide) (fun c_6 => ?_) (fun z9_ => absurd z9_ (show ¬ m_q (some m) = 0 by show ¬ nI 1 = 0; decide))
      refine bq_iload_n (i := 2) dX6_setMagazine_13 rfl ?_
      refine bq_iconst (v := (nI 1)) dX6_setMagazine_14 (by decide) ?_
      refine bq_bipush (v := (nI 8)) dX6_setMagazine_15 (by decide) ?_
      refine bq_callSr dX6_setMagazine_17 ml_X6_81 (n_in) (by decide) (by decide) (Nat.le_of_ble_eq_true rfl) rfl ?_
      refine bq_if_eq (tgt := 27) dX6_setMagazine_20 (by decide) (fun c_20 => ?_) (fun z9_ => absurd hc z9_)
      refine bq_iconst (v := (nI 2)) dX6_setMagazine_27 (by decide) ?_
      refine bt_put0 dX6_setMagazine_28 fl_X6_74 (by first | assumption | exact J.v3 | exact J.v4 | exact J.v5 | exact J.v6 | exact J.l0 | exact J.l1 | exact J.l2 | exact J.l3 | exact J.row (by assumption) | exact J.ops (by assumption) | exact J.job (by assumption)) rfl (by decide) (by first | rfl | decide) (by first | rfl | decide) ?_
      refine bq_aload_n (i := 0) dX6_setMagazine_31 rfl ?_
      refine bt_get0 dX6_setMagazine_32 fl_X6_74 (by first | assumption | exact J.v3 | exact J.v4 | exact J.v5 | exact J.v6 | exact J.l0 | exact J.l1 | exact J.l2 | exact J.l3 | exact J.row (by assumption) | exact J.ops (by assumption) | exact J.job (by assumption)) rfl (by decide) ?_
      rw [b_gs_at]
      refine bq_if_le (tgt := 40) dX6_setMagazine_35 (by decide) (fun z9_ => absurd z9_ (show ¬ nI 2 ≤ 0 by decide)) (fun c_35 => ?_)
      refine bq_iconst (v := (nI 0)) dX6_setMagazine_38 (by decide) ?_
      exact bq_iret dX6_setMagazine_39 rfl (by first | rfl | decide) bq_ret_i
    · rw [show m_setMag σ x (nI m) c = if (m_smx σ x m c).1 6 0 0 ≤ 0 then (σ.1 8 12 m, bt_gs σ 8 12 m c, m_smx σ x m c) else (nI 0, σ, m_smx σ x m c) by unfold m_setMag; rw [e1]; exact if_neg hc]
      refine bq_aload_n (i := 0) dX6_setMagazine_0 rfl ?_
      refine bq_aload_n (i := 0) dX6_setMagazine_1 rfl ?_
      refine bq_iload_n (i := 1) dX6_setMagazine_2 rfl ?_
      refine bt_callVr (c := 6) (i := 0) dX6_setMagazine_3 rfl ml_X6_120 (by first | assumption | exact J.v3 | exact J.v4 | exact J.v5 | exact J.v6 | exact J.l0 | exact J.l1 | exact J.l2 | exact J.l3 | exact J.row (by assumption) | exact J.ops (by assumption) | exact J.job (by assumption)) (by decide) (n_isMachine J hN) (by decide) (by decide) (Nat.le_of_ble_eq_true rfl) rfl ?_
      rw [e1]
      refine bq_if_ne (tgt := 13) dX6_setMagazine_6 (by decide) (fun c_6 => ?_) (fun z9_ => absurd z9_ (show ¬ m_q (some m) = 0 by show ¬ nI 1 = 0; decide))
      refine bq_iload_n (i := 2) dX6_setMagazine_13 rfl ?_
      refine bq_iconst (v := (nI 1)) dX6_setMagazine_14 (by decide) ?_
      refine bq_bipush (v := (nI 8)) dX6_setMagazine_15 (by decide) ?_
      refine bq_callSr dX6_setMagazine_17 ml_X6_81 (n_in) (by decide) (by decide) (Nat.le_of_ble_eq_true rfl) rfl ?_
      refine bq_if_eq (tgt := 27) dX6_setMagazine_20 (by decide) (fun z9_ => absurd z9_ hc) (fun c_20 => ?_)
      refine bq_iconst (v := (nI 0)) dX6_setMagazine_23 (by decide) ?_
      refine bq_goto (tgt := 28) dX6_setMagazine_24 (by decide) ?_
      refine bt_put0 dX6_setMagazine_28 fl_X6_74 (by first | assumption | exact J.v3 | exact J.v4 | exact J.v5 | exact J.v6 | exact J.l0 | exact J.l1 | exact J.l2 | exact J.l3 | exact J.row (by assumption) | exact J.ops (by assumption) | exact J.job (by assumption)) rfl (by decide) (by first | rfl | decide) (by first | rfl | decide) ?_
      refine bq_aload_n (i := 0) dX6_setMagazine_31 rfl ?_
      refine bt_get0 dX6_setMagazine_32 fl_X6_74 (by first | assumption | exact J.v3 | exact J.v4 | exact J.v5 | exact J.v6 | exact J.l0 | exact J.l1 | exact J.l2 | exact J.l3 | exact J.row (by assumption) | exact J.ops (by assumption) | exact J.job (by assumption)) rfl (by decide) ?_
      rw [b_gs_at]
      refine bq_if_le (tgt := 40) dX6_setMagazine_35 (by decide) (fun c_35 => ?_) (fun z9_ => absurd (show nI 0 ≤ 0 by decide) z9_)
      refine bq_iconst (v := (nI 0)) dX6_setMagazine_40 (by decide) ?_
      refine bq_istore_n (i := 3) dX6_setMagazine_41 (by decide) ?_
      refine bq_lvs (lv' := [(0, .ref (bt_ad α 6 0)), (1, .int (nI m)), (2, .int c), (3, .int (nI 0))]) ⟨rfl, rfl, rfl, rfl, trivial⟩ ?_
      refine n_sml2 J hN m_32 0 _ m_32_e ?_
      rw [show m_sml2 σ m c m_32 0 (bt_gs x 6 0 0 (nI 0)) = m_smx σ x m c from rfl]
      refine bq_aload_n (i := 0) dX6_setMagazine_125 rfl ?_
      refine bt_get0 dX6_setMagazine_126 fl_X6_74 (by first | assumption | exact J.v3 | exact J.v4 | exact J.v5 | exact J.v6 | exact J.l0 | exact J.l1 | exact J.l2 | exact J.l3 | exact J.row (by assumption) | exact J.ops (by assumption) | exact J.job (by assumption)) rfl (by decide) ?_
      refine bq_if_le (tgt := 134) dX6_setMagazine_129 (by decide) (fun c_129 => ?_) (fun c_129 => ?_)
      · rw [if_pos c_129]
        refine bq_aload_n (i := 0) dX6_setMagazine_134 rfl ?_
        refine bt_get3 (c' := 8) (n := 12) dX6_setMagazine_135 fl_X6_7 (by first | assumption | exact J.v3 | exact J.v4 | exact J.v5 | exact J.v6 | exact J.l0 | exact J.l1 | exact J.l2 | exact J.l3 | exact J.row (by assumption) | exact J.ops (by assumption) | exact J.job (by assumption)) ⟨rfl, rfl, rfl⟩ (by decide) ?_
        refine bq_iload_n (i := 1) dX6_setMagazine_138 rfl ?_
        refine bt_iald4 (n := 12) (j := m) dX6_setMagazine_139 J.a12 rfl (by omega) (by decide) rfl ?_
        refine bq_istore_n (i := 3) dX6_setMagazine_140 (by decide) ?_
        refine bq_aload_n (i := 0) dX6_setMagazine_141 rfl ?_
        refine bt_get3 (c' := 8) (n := 12) dX6_setMagazine_142 fl_X6_7 (by first | assumption | exact J.v3 | exact J.v4 | exact J.v5 | exact J.v6 | exact J.l0 | exact J.l1 | exact J.l2 | exact J.l3 | exact J.row (by assumption) | exact J.ops (by assumption) | exact J.job (by assumption)) ⟨rfl, rfl, rfl⟩ (by decide) ?_
        refine bq_iload_n (i := 1) dX6_setMagazine_145 rfl ?_
        refine bq_iload_n (i := 2) dX6_setMagazine_146 rfl ?_
        refine bt_iast4 (n := 12) (j := m) dX6_setMagazine_147 J.a12 rfl (by omega) (by decide) rfl ?_
        refine bq_iload_n (i := 3) dX6_setMagazine_148 rfl ?_
        exact bq_iret dX6_setMagazine_149 rfl (by first | rfl | decide) bq_ret_i
      · rw [if_neg c_129]
        refine bq_iconst (v := (nI 0)) dX6_setMagazine_132 (by decide) ?_
        exact bq_iret dX6_setMagazine_133 rfl (by first | rfl | decide) bq_ret_i
theorem m_K.gs {σ : bt_X} (h : m_K σ) {c i k : Nat} {v : Int32} (hc : ¬ (c = 8 ∧ (i = 21 ∨ i = 23))) : m_K (bt_gs σ c i k v) := fun p hp => by
  obtain ⟨h1, h2⟩ := h p hp
  rw [b_gs_ne (by omega), b_gs_ne (by omega)]
  exact ⟨h1, h2⟩
theorem m_Nn.gs {σ : bt_X} (h : m_Nn σ) {c i k : Nat} {v : Int32} (hc : ¬ (c = 8 ∧ i = 19) ∧ c ≠ 6) : m_Nn (bt_gs σ c i k v) := by
  obtain ⟨h1, h2, h3⟩ := h
  refine ⟨by rw [b_gs_ne (by omega)]; exact h1, by rw [b_gs_ne (by omega)]; exact h2, fun j hj => by rw [b_gs_ne (by omega)]; exact h3 j hj⟩
def m_brS (σ : bt_X) (m : Nat) (f t : Int32) : bt_X := bt_gs (bt_gs σ 8 13 m f) 8 14 m t
noncomputable def m_brk (σ x : bt_X) (a f t : Int32) : m_Rt := match b_ix (m_nm σ) a with
  | none => (nI 0, σ, m_thr x (nI 1))
  | some m => if m_in f (nI 0) (nI 9999) = 0 then (nI 0, σ, m_thr x (nI 2)) else if t ≤ f then (nI 0, σ, m_thr x (nI 2)) else if nI 10000 < t then (nI 0, σ, m_thr x (nI 2)) else
      (m_spanOf (m_brS σ m f t) (m_thr x (nI 0)), m_brS σ m f t, m_wS (m_brS σ m f t) (m_thr x (nI 0)))
set_option maxRecDepth 100000 in
set_option maxHeartbeats 400000 in
theorem n_brk {G : bp_X} {α : bt_A} {σ x : bt_X} {a f t : Int32} (J : m_J α) (hN : m_Nn σ) (hK : m_K σ) (hR : m_Rw x) : bq_S G mX6_breakdown 5 [.ref (bt_ad α 6 0), .int a, .int f, .int t] (bt α σ x) (bq_ret (some (.int (m_brk σ x a f t).1)) (bt α (m_brk σ x a f t).2.1 (m_brk σ x a f t).2.2)) := by
  refine bq_ofW (by decide +kernel) rfl (Nat.le_of_ble_eq_true rfl) ?_
  cases e1 : b_ix (m_nm σ) a with
  | none =>
    rw [show m_brk σ x a f t = (nI 0, σ, m_thr x (nI 1)) by unfold m_brk; rw [e1]]
    refine bq_aload_n (i := 0) dX6_breakdown_0 rfl ?_
    refine bq_aload_n (i := 0) dX6_breakdown_1 rfl ?_
    refine bq_iload_n (i := 1) dX6_breakdown_2 rfl ?_
    refine bt_callVr (c := 6) (i := 0) dX6_breakdown_3 rfl ml_X6_120 (by first | assumption | exact J.v3 | exact J.v4 | exact J.v5 | exact J.v6 | exact J.l0 | exact J.l1 | exact J.l2 | exact J.l3 | exact J.row (by assumption) | exact J.ops (by assumption) | exact J.job (by assumption)) (by decide) (n_isMachine J hN) (by decide) (by decide) (Nat.le_of_ble_eq_true rfl) rfl ?_
    rw [e1]
    refine bq_if_ne (tgt := 13) dX6_breakdown_6 (by decide) (fun z9_ => absurd (show m_q none = 0 from rfl) z9_) (fun c_6 => ?_)
    refine bq_iconst (v := (nI 1)) dX6_breakdown_9 (by decide) ?_
    refine bq_goto (tgt := 41) dX6_breakdown_10 (by decide) ?_
    refine bt_put0 dX6_breakdown_41 fl_X6_74 (by first | assumption | exact J.v3 | exact J.v4 | exact J.v5 | exact J.v6 | exact J.l0 | exact J.l1 | exact J.l2 | exact J.l3 | exact J.row (by assumption) | exact J.ops (by assumption) | exact J.job (by assumption)) rfl (by decide) (by first | rfl | decide) (by first | rfl | decide) ?_
    refine bq_aload_n (i := 0) dX6_breakdown_44 rfl ?_
    refine bt_get0 dX6_breakdown_45 fl_X6_74 (by first | assumption | exact J.v3 | exact J.v4 | exact J.v5 | exact J.v6 | exact J.l0 | exact J.l1 | exact J.l2 | exact J.l3 | exact J.row (by assumption) | exact J.ops (by assumption) | exact J.job (by assumption)) rfl (by decide) ?_
    rw [b_gs_at]
    refine bq_if_le (tgt := 53) dX6_breakdown_48 (by decide) (fun z9_ => absurd z9_ (show ¬ nI 1 ≤ 0 by decide)) (fun c_48 => ?_)
    refine bq_iconst (v := (nI 0)) dX6_breakdown_51 (by decide) ?_
    exact bq_iret dX6_breakdown_52 rfl (by first | rfl | decide) bq_ret_i
  | some m =>
    have hb0 : m_nm σ < 9 := by have := hN.1.l; exact Nat.lt_of_lt_of_le this (by decide)
    obtain ⟨ea, hmn⟩ := m_ix_e (by omega) e1
    have hm4 := m_nm4 hN hmn
    subst ea
    by_cases h1 : m_in f (nI 0) (nI 9999) = 0
    · rw [show m_brk σ x (nI m) f t = (nI 0, σ, m_thr x (nI 2)) by unfold m_brk; rw [e1]; exact if_pos h1]
      refine bq_aload_n (i := 0) dX6_breakdown_0 rfl ?_
      refine bq_aload_n (i := 0) dX6_breakdown_1 rfl ?_
      refine bq_iload_n (i := 1) dX6_breakdown_2 rfl ?_
      refine bt_callVr (c := 6) (i := 0) dX6_breakdown_3 rfl ml_X6_120 (by first | assumption | exact J.v3 | exact J.v4 | exact J.v5 | exact J.v6 | exact J.l0 | exact J.l1 | exact J.l2 | exact J.l3 | exact J.row (by assumption) | exact J.ops (by assumption) | exact J.job (by assumption)) (by decide) (n_isMachine J hN) (by decide) (by decide) (Nat.le_of_ble_eq_true rfl) rfl ?_
      rw [e1]
      refine bq_if_ne (tgt := 13) dX6_breakdown_6 (by decide) (fun c_6 => ?_) (fun z9_ => absurd z9_ (show ¬ m_q (some m) = 0 by show ¬ nI 1 = 0; decide))
      refine bq_iload_n (i := 2) dX6_breakdown_13 rfl ?_
      refine bq_iconst (v := (nI 0)) dX6_breakdown_14 (by decide) ?_
      refine bq_sipush (v := (nI 9999)) dX6_breakdown_15 (by decide) ?_
      refine bq_callSr dX6_breakdown_18 ml_X6_81 (n_in) (by decide) (by decide) (Nat.le_of_ble_eq_true rfl) rfl ?_
      refine bq_if_eq (tgt := 40) dX6_breakdown_21 (by decide) (fun c_21 => ?_) (fun z9_ => absurd h1 z9_)
      refine bq_iconst (v := (nI 2)) dX6_breakdown_40 (by decide) ?_
      refine bt_put0 dX6_breakdown_41 fl_X6_74 (by first | assumption | exact J.v3 | exact J.v4 | exact J.v5 | exact J.v6 | exact J.l0 | exact J.l1 | exact J.l2 | exact J.l3 | exact J.row (by assumption) | exact J.ops (by assumption) | exact J.job (by assumption)) rfl (by decide) (by first | rfl | decide) (by first | rfl | decide) ?_
      refine bq_aload_n (i := 0) dX6_breakdown_44 rfl ?_
      refine bt_get0 dX6_breakdown_45 fl_X6_74 (by first | assumption | exact J.v3 | exact J.v4 | exact J.v5 | exact J.v6 | exact J.l0 | exact J.l1 | exact J.l2 | exact J.l3 | exact J.row (by assumption) | exact J.ops (by assumption) | exact J.job (by assumption)) rfl (by decide) ?_
      rw [b_gs_at]
      refine bq_if_le (tgt := 53) dX6_breakdown_48 (by decide) (fun z9_ => absurd z9_ (show ¬ nI 2 ≤ 0 by decide)) (fun c_48 => ?_)
      refine bq_iconst (v := (nI 0)) dX6_breakdown_51 (by decide) ?_
      exact bq_iret dX6_breakdown_52 rfl (by first | rfl | decide) bq_ret_i
    · by_cases h2 : t ≤ f
      · rw [show m_brk σ x (nI m) f t = (nI 0, σ, m_thr x (nI 2)) by unfold m_brk; rw [e1]; exact (if_neg h1).trans (if_pos h2)]
        refine bq_aload_n (i := 0) dX6_breakdown_0 rfl ?_
        refine bq_aload_n (i := 0) dX6_breakdown_1 rfl ?_
        refine bq_iload_n (i := 1) dX6_breakdown_2 rfl ?_
        refine bt_callVr (c := 6) (i := 0) dX6_breakdown_3 rfl ml_X6_120 (by first | assumption | exact J.v3 | exact J.v4 | exact J.v5 | exact J.v6 | exact J.l0 | exact J.l1 | exact J.l2 | exact J.l3 | exact J.row (by assumption) | exact J.ops (by assumption) | exact J.job (by assumption)) (by decide) (n_isMachine J hN) (by decide) (by decide) (Nat.le_of_ble_eq_true rfl) rfl ?_
        rw [e1]
        refine bq_if_ne (tgt := 13) dX6_breakdown_6 (by decide) (fun c_6 => ?_) (fun z9_ => absurd z9_ (show ¬ m_q (some m) = 0 by show ¬ nI 1 = 0; decide))
        refine bq_iload_n (i := 2) dX6_breakdown_13 rfl ?_
        refine bq_iconst (v := (nI 0)) dX6_breakdown_14 (by decide) ?_
        refine bq_sipush (v := (nI 9999)) dX6_breakdown_15 (by decide) ?_
        refine bq_callSr dX6_breakdown_18 ml_X6_81 (n_in) (by decide) (by decide) (Nat.le_of_ble_eq_true rfl) rfl ?_
        refine bq_if_eq (tgt := 40) dX6_breakdown_21 (by decide) (fun z9_ => absurd z9_ h1) (fun c_21 => ?_)
        refine bq_iload_n (i := 3) dX6_breakdown_24 rfl ?_
        refine bq_iload_n (i := 2) dX6_breakdown_25 rfl ?_
        refine bq_icmp_le (tgt := 40) dX6_breakdown_26 (by decide) (fun c_26 => ?_) (fun z9_ => absurd h2 z9_)
        refine bq_iconst (v := (nI 2)) dX6_breakdown_40 (by decide) ?_
        refine bt_put0 dX6_breakdown_41 fl_X6_74 (by first | assumption | exact J.v3 | exact J.v4 | exact J.v5 | exact J.v6 | exact J.l0 | exact J.l1 | exact J.l2 | exact J.l3 | exact J.row (by assumption) | exact J.ops (by assumption) | exact J.job (by assumption)) rfl (by decide) (by first | rfl | decide) (by first | rfl | decide) ?_
        refine bq_aload_n (i := 0) dX6_breakdown_44 rfl ?_
        refine bt_get0 dX6_breakdown_45 fl_X6_74 (by first | assumption | exact J.v3 | exact J.v4 | exact J.v5 | exact J.v6 | exact J.l0 | exact J.l1 | exact J.l2 | exact J.l3 | exact J.row (by assumption) | exact J.ops (by assumption) | exact J.job (by assumption)) rfl (by decide) ?_
        rw [b_gs_at]
        refine bq_if_le (tgt := 53) dX6_breakdown_48 (by decide) (fun z9_ => absurd z9_ (show ¬ nI 2 ≤ 0 by decide)) (fun c_48 => ?_)
        refine bq_iconst (v := (nI 0)) dX6_breakdown_51 (by decide) ?_
        exact bq_iret dX6_breakdown_52 rfl (by first | rfl | decide) bq_ret_i
      · by_cases h3 : nI 10000 < t
        · rw [show m_brk σ x (nI m) f t = (nI 0, σ, m_thr x (nI 2)) by unfold m_brk; rw [e1]; exact (if_neg h1).trans ((if_neg h2).trans (if_pos h3))]
          refine bq_aload_n (i := 0) dX6_breakdown_0 rfl ?_
          refine bq_aload_n (i := 0) dX6_breakdown_1 rfl ?_
          refine bq_iload_n (i := 1) dX6_breakdown_2 rfl ?_
          refine bt_callVr (c := 6) (i := 0) dX6_breakdown_3 rfl ml_X6_120 (by first | assumption | exact J.v3 | exact J.v4 | exact J.v5 | exact J.v6 | exact J.l0 | exact J.l1 | exact J.l2 | exact J.l3 | exact J.row (by assumption) | exact J.ops (by assumption) | exact J.job (by assumption)) (by decide) (n_isMachine J hN) (by decide) (by decide) (Nat.le_of_ble_eq_true rfl) rfl ?_
          rw [e1]
          refine bq_if_ne (tgt := 13) dX6_breakdown_6 (by decide) (fun c_6 => ?_) (fun z9_ => absurd z9_ (show ¬ m_q (some m) = 0 by show ¬ nI 1 = 0; decide))
          refine bq_iload_n (i := 2) dX6_breakdown_13 rfl ?_
          refine bq_iconst (v := (nI 0)) dX6_breakdown_14 (by decide) ?_
          refine bq_sipush (v := (nI 9999)) dX6_breakdown_15 (by decide) ?_
          refine bq_callSr dX6_breakdown_18 ml_X6_81 (n_in) (by decide) (by decide) (Nat.le_of_ble_eq_true rfl) rfl ?_
          refine bq_if_eq (tgt := 40) dX6_breakdown_21 (by decide) (fun z9_ => absurd z9_ h1) (fun c_21 => ?_)
          refine bq_iload_n (i := 3) dX6_breakdown_24 rfl ?_
          refine bq_iload_n (i := 2) dX6_breakdown_25 rfl ?_
          refine bq_icmp_le (tgt := 40) dX6_breakdown_26 (by decide) (fun z9_ => absurd z9_ h2) (fun c_26 => ?_)
          refine bq_iload_n (i := 3) dX6_breakdown_29 rfl ?_
          refine bq_sipush (v := (nI 10000)) dX6_breakdown_30 (by decide) ?_
          refine bq_icmp_gt (tgt := 40) dX6_breakdown_33 (by decide) (fun c_33 => ?_) (fun z9_ => absurd h3 z9_)
          refine bq_iconst (v := (nI 2)) dX6_breakdown_40 (by decide) ?_
          refine bt_put0 dX6_breakdown_41 fl_X6_74 (by first | assumption | exact J.v3 | exact J.v4 | exact J.v5 | exact J.v6 | exact J.l0 | exact J.l1 | exact J.l2 | exact J.l3 | exact J.row (by assumption) | exact J.ops (by assumption) | exact J.job (by assumption)) rfl (by decide) (by first | rfl | decide) (by first | rfl | decide) ?_
          refine bq_aload_n (i := 0) dX6_breakdown_44 rfl ?_
          refine bt_get0 dX6_breakdown_45 fl_X6_74 (by first | assumption | exact J.v3 | exact J.v4 | exact J.v5 | exact J.v6 | exact J.l0 | exact J.l1 | exact J.l2 | exact J.l3 | exact J.row (by assumption) | exact J.ops (by assumption) | exact J.job (by assumption)) rfl (by decide) ?_
          rw [b_gs_at]
          refine bq_if_le (tgt := 53) dX6_breakdown_48 (by decide) (fun z9_ => absurd z9_ (show ¬ nI 2 ≤ 0 by decide)) (fun c_48 => ?_)
          refine bq_iconst (v := (nI 0)) dX6_breakdown_51 (by decide) ?_
          exact bq_iret dX6_breakdown_52 rfl (by first | rfl | decide) bq_ret_i
        · rw [show m_brk σ x (nI m) f t = (m_spanOf (m_brS σ m f t) (m_thr x (nI 0)), m_brS σ m f t, m_wS (m_brS σ m f t) (m_thr x (nI 0))) by unfold m_brk; rw [e1]; exact (if_neg h1).trans ((if_neg h2).trans (if_neg h3))]
          refine bq_aload_n (i := 0) dX6_breakdown_0 rfl ?_
          refine bq_aload_n (i := 0) dX6_breakdown_1 rfl ?_
          refine bq_iload_n (i := 1) dX6_breakdown_2 rfl ?_
          refine bt_callVr (c := 6) (i := 0) dX6_breakdown_3 rfl ml_X6_120 (by first | assumption | exact J.v3 | exact J.v4 | exact J.v5 | exact J.v6 | exact J.l0 | exact J.l1 | exact J.l2 | exact J.l3 | exact J.row (by assumption) | exact J.ops (by assumption) | exact J.job (by assumption)) (by decide) (n_isMachine J hN) (by decide) (by decide) (Nat.le_of_ble_eq_true rfl) rfl ?_
          rw [e1]
          refine bq_if_ne (tgt := 13) dX6_breakdown_6 (by decide) (fun c_6 => ?_) (fun z9_ => absurd z9_ (show ¬ m_q (some m) = 0 by show ¬ nI 1 = 0; decide))
          refine bq_iload_n (i := 2) dX6_breakdown_13 rfl ?_
          refine bq_iconst (v := (nI 0)) dX6_breakdown_14 (by decide) ?_
          refine bq_sipush (v := (nI 9999)) dX6_breakdown_15 (by decide) ?_
          refine bq_callSr dX6_breakdown_18 ml_X6_81 (n_in) (by decide) (by decide) (Nat.le_of_ble_eq_true rfl) rfl ?_
          refine bq_if_eq (tgt := 40) dX6_breakdown_21 (by decide) (fun z9_ => absurd z9_ h1) (fun c_21 => ?_)
          refine bq_iload_n (i := 3) dX6_breakdown_24 rfl ?_
          refine bq_iload_n (i := 2) dX6_breakdown_25 rfl ?_
          refine bq_icmp_le (tgt := 40) dX6_breakdown_26 (by decide) (fun z9_ => absurd z9_ h2) (fun c_26 => ?_)
          refine bq_iload_n (i := 3) dX6_breakdown_29 rfl ?_
          refine bq_sipush (v := (nI 10000)) dX6_breakdown_30 (by decide) ?_
          refine bq_icmp_gt (tgt := 40) dX6_breakdown_33 (by decide) (fun z9_ => absurd z9_ h3) (fun c_33 => ?_)
          refine bq_iconst (v := (nI 0)) dX6_breakdown_36 (by decide) ?_
          refine bq_goto (tgt := 41) dX6_breakdown_37 (by decide) ?_
          refine bt_put0 dX6_breakdown_41 fl_X6_74 (by first | assumption | exact J.v3 | exact J.v4 | exact J.v5 | exact J.v6 | exact J.l0 | exact J.l1 | exact J.l2 | exact J.l3 | exact J.row (by assumption) | exact J.ops (by assumption) | exact J.job (by assumption)) rfl (by decide) (by first | rfl | decide) (by first | rfl | decide) ?_
          refine bq_aload_n (i := 0) dX6_breakdown_44 rfl ?_
          refine bt_get0 dX6_breakdown_45 fl_X6_74 (by first | assumption | exact J.v3 | exact J.v4 | exact J.v5 | exact J.v6 | exact J.l0 | exact J.l1 | exact J.l2 | exact J.l3 | exact J.row (by assumption) | exact J.ops (by assumption) | exact J.job (by assumption)) rfl (by decide) ?_
          rw [b_gs_at]
          refine bq_if_le (tgt := 53) dX6_breakdown_48 (by decide) (fun c_48 => ?_) (fun z9_ => absurd (show nI 0 ≤ 0 by decide) z9_)
          refine bq_aload_n (i := 0) dX6_breakdown_53 rfl ?_
          refine bt_get3 (c' := 8) (n := 13) dX6_breakdown_54 fl_X6_13 (by first | assumption | exact J.v3 | exact J.v4 | exact J.v5 | exact J.v6 | exact J.l0 | exact J.l1 | exact J.l2 | exact J.l3 | exact J.row (by assumption) | exact J.ops (by assumption) | exact J.job (by assumption)) ⟨rfl, rfl, rfl⟩ (by decide) ?_
          refine bq_iload_n (i := 1) dX6_breakdown_57 rfl ?_
          refine bq_iload_n (i := 2) dX6_breakdown_58 rfl ?_
          refine bt_iast4 (n := 13) (j := m) dX6_breakdown_59 J.a13 rfl (by omega) (by decide) rfl ?_
          refine bq_aload_n (i := 0) dX6_breakdown_60 rfl ?_
          refine bt_get3 (c' := 8) (n := 14) dX6_breakdown_61 fl_X6_16 (by first | assumption | exact J.v3 | exact J.v4 | exact J.v5 | exact J.v6 | exact J.l0 | exact J.l1 | exact J.l2 | exact J.l3 | exact J.row (by assumption) | exact J.ops (by assumption) | exact J.job (by assumption)) ⟨rfl, rfl, rfl⟩ (by decide) ?_
          refine bq_iload_n (i := 1) dX6_breakdown_64 rfl ?_
          refine bq_iload_n (i := 3) dX6_breakdown_65 rfl ?_
          refine bt_iast4 (n := 14) (j := m) dX6_breakdown_66 J.a14 rfl (by omega) (by decide) rfl ?_
          rw [show bt_gs (bt_gs σ 8 13 m f) 8 14 m t = m_brS σ m f t from rfl]
          refine bq_aload_n (i := 0) dX6_breakdown_67 rfl ?_
          refine bt_callVr (c := 6) (i := 0) dX6_breakdown_68 rfl ml_X6_113 (by first | assumption | exact J.v3 | exact J.v4 | exact J.v5 | exact J.v6 | exact J.l0 | exact J.l1 | exact J.l2 | exact J.l3 | exact J.row (by assumption) | exact J.ops (by assumption) | exact J.job (by assumption)) (by decide) (n_spanOf J ((hN.gs (by omega)).gs (by omega)) ((hK.gs (by omega)).gs (by omega)) hR.thr) (by decide) (by decide) (Nat.le_of_ble_eq_true rfl) rfl ?_
          exact bq_iret dX6_breakdown_71 rfl (by first | rfl | decide) bq_ret_i
def m_rep (σ x : bt_X) (a : Int32) : m_Rt := match b_ix (m_nm σ) a with
  | none => (nI 0, σ, m_thr x (nI 1))
  | some m => ((if σ.1 8 14 m ≤ 0 then nI 0 else nI 1), m_brS σ m (nI 0) (nI 0), m_thr x (nI 0))
set_option maxRecDepth 100000 in
set_option maxHeartbeats 400000 in
theorem n_rep {G : bp_X} {α : bt_A} {σ x : bt_X} {a : Int32} (J : m_J α) (hN : m_Nn σ) : bq_S G mX6_repair 2 [.ref (bt_ad α 6 0), .int a] (bt α σ x) (bq_ret (some (.int (m_rep σ x a).1)) (bt α (m_rep σ x a).2.1 (m_rep σ x a).2.2)) := by
  refine bq_ofW (by decide +kernel) rfl (Nat.le_of_ble_eq_true rfl) ?_
  cases e1 : b_ix (m_nm σ) a with
  | none =>
    rw [show m_rep σ x a = (nI 0, σ, m_thr x (nI 1)) by unfold m_rep; rw [e1]]
    refine bq_aload_n (i := 0) dX6_repair_0 rfl ?_
    refine bq_aload_n (i := 0) dX6_repair_1 rfl ?_
    refine bq_iload_n (i := 1) dX6_repair_2 rfl ?_
    refine bt_callVr (c := 6) (i := 0) dX6_repair_3 rfl ml_X6_120 (by first | assumption | exact J.v3 | exact J.v4 | exact J.v5 | exact J.v6 | exact J.l0 | exact J.l1 | exact J.l2 | exact J.l3 | exact J.row (by assumption) | exact J.ops (by assumption) | exact J.job (by assumption)) (by decide) (n_isMachine J hN) (by decide) (by decide) (Nat.le_of_ble_eq_true rfl) rfl ?_
    rw [e1]
    refine bq_if_eq (tgt := 13) dX6_repair_6 (by decide) (fun c_6 => ?_) (fun z9_ => absurd (show m_q none = 0 from rfl) z9_)
    refine bq_iconst (v := (nI 1)) dX6_repair_13 (by decide) ?_
    refine bt_put0 dX6_repair_14 fl_X6_74 (by first | assumption | exact J.v3 | exact J.v4 | exact J.v5 | exact J.v6 | exact J.l0 | exact J.l1 | exact J.l2 | exact J.l3 | exact J.row (by assumption) | exact J.ops (by assumption) | exact J.job (by assumption)) rfl (by decide) (by first | rfl | decide) (by first | rfl | decide) ?_
    refine bq_aload_n (i := 0) dX6_repair_17 rfl ?_
    refine bt_get0 dX6_repair_18 fl_X6_74 (by first | assumption | exact J.v3 | exact J.v4 | exact J.v5 | exact J.v6 | exact J.l0 | exact J.l1 | exact J.l2 | exact J.l3 | exact J.row (by assumption) | exact J.ops (by assumption) | exact J.job (by assumption)) rfl (by decide) ?_
    rw [b_gs_at]
    refine bq_if_le (tgt := 26) dX6_repair_21 (by decide) (fun z9_ => absurd z9_ (show ¬ nI 1 ≤ 0 by decide)) (fun c_21 => ?_)
    refine bq_iconst (v := (nI 0)) dX6_repair_24 (by decide) ?_
    exact bq_iret dX6_repair_25 rfl (by first | rfl | decide) bq_ret_i
  | some m =>
    have hb0 : m_nm σ < 9 := by have := hN.1.l; exact Nat.lt_of_lt_of_le this (by decide)
    obtain ⟨ea, hmn⟩ := m_ix_e (by omega) e1
    have hm4 := m_nm4 hN hmn
    subst ea
    rw [show m_rep σ x (nI m) = ((if σ.1 8 14 m ≤ 0 then nI 0 else nI 1), m_brS σ m (nI 0) (nI 0), m_thr x (nI 0)) by unfold m_rep; rw [e1]]
    refine bq_aload_n (i := 0) dX6_repair_0 rfl ?_
    refine bq_aload_n (i := 0) dX6_repair_1 rfl ?_
    refine bq_iload_n (i := 1) dX6_repair_2 rfl ?_
    refine bt_callVr (c := 6) (i := 0) dX6_repair_3 rfl ml_X6_120 (by first | assumption | exact J.v3 | exact J.v4 | exact J.v5 | exact J.v6 | exact J.l0 | exact J.l1 | exact J.l2 | exact J.l3 | exact J.row (by assumption) | exact J.ops (by assumption) | exact J.job (by assumption)) (by decide) (n_isMachine J hN) (by decide) (by decide) (Nat.le_of_ble_eq_true rfl) rfl ?_
    rw [e1]
    refine bq_if_eq (tgt := 13) dX6_repair_6 (by decide) (fun z9_ => absurd z9_ (show ¬ m_q (some m) = 0 by show ¬ nI 1 = 0; decide)) (fun c_6 => ?_)
    refine bq_iconst (v := (nI 0)) dX6_repair_9 (by decide) ?_
    refine bq_goto (tgt := 14) dX6_repair_10 (by decide) ?_
    refine bt_put0 dX6_repair_14 fl_X6_74 (by first | assumption | exact J.v3 | exact J.v4 | exact J.v5 | exact J.v6 | exact J.l0 | exact J.l1 | exact J.l2 | exact J.l3 | exact J.row (by assumption) | exact J.ops (by assumption) | exact J.job (by assumption)) rfl (by decide) (by first | rfl | decide) (by first | rfl | decide) ?_
    refine bq_aload_n (i := 0) dX6_repair_17 rfl ?_
    refine bt_get0 dX6_repair_18 fl_X6_74 (by first | assumption | exact J.v3 | exact J.v4 | exact J.v5 | exact J.v6 | exact J.l0 | exact J.l1 | exact J.l2 | exact J.l3 | exact J.row (by assumption) | exact J.ops (by assumption) | exact J.job (by assumption)) rfl (by decide) ?_
    rw [b_gs_at]
    refine bq_if_le (tgt := 26) dX6_repair_21 (by decide) (fun c_21 => ?_) (fun z9_ => absurd (show nI 0 ≤ 0 by decide) z9_)
    refine bq_aload_n (i := 0) dX6_repair_26 rfl ?_
    refine bt_get3 (c' := 8) (n := 14) dX6_repair_27 fl_X6_16 (by first | assumption | exact J.v3 | exact J.v4 | exact J.v5 | exact J.v6 | exact J.l0 | exact J.l1 | exact J.l2 | exact J.l3 | exact J.row (by assumption) | exact J.ops (by assumption) | exact J.job (by assumption)) ⟨rfl, rfl, rfl⟩ (by decide) ?_
    refine bq_iload_n (i := 1) dX6_repair_30 rfl ?_
    refine bt_iald4 (n := 14) (j := m) dX6_repair_31 J.a14 rfl (by omega) (by decide) rfl ?_
    refine bq_if_le (tgt := 39) dX6_repair_32 (by decide) (fun c_32 => ?_) (fun c_32 => ?_)
    · rw [if_pos c_32]
      refine bq_iconst (v := (nI 0)) dX6_repair_39 (by decide) ?_
      refine bq_istore_n (i := 2) dX6_repair_40 (by decide) ?_
      refine bq_aload_n (i := 0) dX6_repair_41 rfl ?_
      refine bt_get3 (c' := 8) (n := 13) dX6_repair_42 fl_X6_13 (by first | assumption | exact J.v3 | exact J.v4 | exact J.v5 | exact J.v6 | exact J.l0 | exact J.l1 | exact J.l2 | exact J.l3 | exact J.row (by assumption) | exact J.ops (by assumption) | exact J.job (by assumption)) ⟨rfl, rfl, rfl⟩ (by decide) ?_
      refine bq_iload_n (i := 1) dX6_repair_45 rfl ?_
      refine bq_iconst (v := (nI 0)) dX6_repair_46 (by decide) ?_
      refine bt_iast4 (n := 13) (j := m) dX6_repair_47 J.a13 rfl (by omega) (by decide) rfl ?_
      refine bq_aload_n (i := 0) dX6_repair_48 rfl ?_
      refine bt_get3 (c' := 8) (n := 14) dX6_repair_49 fl_X6_16 (by first | assumption | exact J.v3 | exact J.v4 | exact J.v5 | exact J.v6 | exact J.l0 | exact J.l1 | exact J.l2 | exact J.l3 | exact J.row (by assumption) | exact J.ops (by assumption) | exact J.job (by assumption)) ⟨rfl, rfl, rfl⟩ (by decide) ?_
      refine bq_iload_n (i := 1) dX6_repair_52 rfl ?_
      refine bq_iconst (v := (nI 0)) dX6_repair_53 (by decide) ?_
      refine bt_iast4 (n := 14) (j := m) dX6_repair_54 J.a14 rfl (by omega) (by decide) rfl ?_
      refine bq_iload_n (i := 2) dX6_repair_55 rfl ?_
      exact bq_iret dX6_repair_56 rfl (by first | rfl | decide) bq_ret_i
    · rw [if_neg c_32]
      refine bq_iconst (v := (nI 1)) dX6_repair_35 (by decide) ?_
      refine bq_goto (tgt := 40) dX6_repair_36 (by decide) ?_
      refine bq_istore_n (i := 2) dX6_repair_40 (by decide) ?_
      refine bq_aload_n (i := 0) dX6_repair_41 rfl ?_
      refine bt_get3 (c' := 8) (n := 13) dX6_repair_42 fl_X6_13 (by first | assumption | exact J.v3 | exact J.v4 | exact J.v5 | exact J.v6 | exact J.l0 | exact J.l1 | exact J.l2 | exact J.l3 | exact J.row (by assumption) | exact J.ops (by assumption) | exact J.job (by assumption)) ⟨rfl, rfl, rfl⟩ (by decide) ?_
      refine bq_iload_n (i := 1) dX6_repair_45 rfl ?_
      refine bq_iconst (v := (nI 0)) dX6_repair_46 (by decide) ?_
      refine bt_iast4 (n := 13) (j := m) dX6_repair_47 J.a13 rfl (by omega) (by decide) rfl ?_
      refine bq_aload_n (i := 0) dX6_repair_48 rfl ?_
      refine bt_get3 (c' := 8) (n := 14) dX6_repair_49 fl_X6_16 (by first | assumption | exact J.v3 | exact J.v4 | exact J.v5 | exact J.v6 | exact J.l0 | exact J.l1 | exact J.l2 | exact J.l3 | exact J.row (by assumption) | exact J.ops (by assumption) | exact J.job (by assumption)) ⟨rfl, rfl, rfl⟩ (by decide) ?_
      refine bq_iload_n (i := 1) dX6_repair_52 rfl ?_
      refine bq_iconst (v := (nI 0)) dX6_repair_53 (by decide) ?_
      refine bt_iast4 (n := 14) (j := m) dX6_repair_54 J.a14 rfl (by omega) (by decide) rfl ?_
      refine bq_iload_n (i := 2) dX6_repair_55 rfl ?_
      exact bq_iret dX6_repair_56 rfl (by first | rfl | decide) bq_ret_i
def m_addJ (σ x : bt_X) (d : Int32) : m_Rt := if m_in d (nI 0) (nI 10000) = 0 then (nI 0, σ, m_thr x (nI 1)) else if m_nj σ = 8 then (nI 0, σ, m_thr x (nI 2)) else (nI (m_nj σ), bt_gs (bt_gs σ 8 18 (m_nj σ) d) 6 0 7 (nI (m_nj σ + 1)), m_thr x (nI 0))
set_option maxRecDepth 100000 in
set_option maxHeartbeats 400000 in
theorem n_addJ {G : bp_X} {α : bt_A} {σ x : bt_X} {d : Int32} (J : m_J α) (hN : m_Nn σ) : bq_S G mX6_addJob 1 [.ref (bt_ad α 6 0), .int d] (bt α σ x) (bq_ret (some (.int (m_addJ σ x d).1)) (bt α (m_addJ σ x d).2.1 (m_addJ σ x d).2.2)) := by
  refine bq_ofW (by decide +kernel) rfl (Nat.le_of_ble_eq_true rfl) ?_
  have ej : σ.1 6 0 7 = nI (m_nj σ) := hN.2.1.e
  have hl : m_nj σ < 9 := hN.2.1.l
  by_cases h1 : m_in d (nI 0) (nI 10000) = 0
  · rw [show m_addJ σ x d = (nI 0, σ, m_thr x (nI 1)) from if_pos h1]
    refine bq_aload_n (i := 0) dX6_addJob_0 rfl ?_
    refine bq_iload_n (i := 1) dX6_addJob_1 rfl ?_
    refine bq_iconst (v := (nI 0)) dX6_addJob_2 (by decide) ?_
    refine bq_sipush (v := (nI 10000)) dX6_addJob_3 (by decide) ?_
    refine bq_callSr dX6_addJob_6 ml_X6_81 (n_in) (by decide) (by decide) (Nat.le_of_ble_eq_true rfl) rfl ?_
    refine bq_if_ne (tgt := 16) dX6_addJob_9 (by decide) (fun z9_ => absurd h1 z9_) (fun c_9 => ?_)
    refine bq_iconst (v := (nI 1)) dX6_addJob_12 (by decide) ?_
    refine bq_goto (tgt := 30) dX6_addJob_13 (by decide) ?_
    refine bt_put0 dX6_addJob_30 fl_X6_74 (by first | assumption | exact J.v3 | exact J.v4 | exact J.v5 | exact J.v6 | exact J.l0 | exact J.l1 | exact J.l2 | exact J.l3 | exact J.row (by assumption) | exact J.ops (by assumption) | exact J.job (by assumption)) rfl (by decide) (by first | rfl | decide) (by first | rfl | decide) ?_
    refine bq_aload_n (i := 0) dX6_addJob_33 rfl ?_
    refine bt_get0 dX6_addJob_34 fl_X6_74 (by first | assumption | exact J.v3 | exact J.v4 | exact J.v5 | exact J.v6 | exact J.l0 | exact J.l1 | exact J.l2 | exact J.l3 | exact J.row (by assumption) | exact J.ops (by assumption) | exact J.job (by assumption)) rfl (by decide) ?_
    rw [b_gs_at]
    refine bq_if_le (tgt := 42) dX6_addJob_37 (by decide) (fun z9_ => absurd z9_ (show ¬ nI 1 ≤ 0 by decide)) (fun c_37 => ?_)
    refine bq_iconst (v := (nI 0)) dX6_addJob_40 (by decide) ?_
    exact bq_iret dX6_addJob_41 rfl (by first | rfl | decide) bq_ret_i
  · by_cases h2 : m_nj σ = 8
    · rw [show m_addJ σ x d = (nI 0, σ, m_thr x (nI 2)) from (if_neg h1).trans (if_pos h2)]
      refine bq_aload_n (i := 0) dX6_addJob_0 rfl ?_
      refine bq_iload_n (i := 1) dX6_addJob_1 rfl ?_
      refine bq_iconst (v := (nI 0)) dX6_addJob_2 (by decide) ?_
      refine bq_sipush (v := (nI 10000)) dX6_addJob_3 (by decide) ?_
      refine bq_callSr dX6_addJob_6 ml_X6_81 (n_in) (by decide) (by decide) (Nat.le_of_ble_eq_true rfl) rfl ?_
      refine bq_if_ne (tgt := 16) dX6_addJob_9 (by decide) (fun c_9 => ?_) (fun z9_ => absurd z9_ h1)
      refine bq_aload_n (i := 0) dX6_addJob_16 rfl ?_
      refine bt_get4 dX6_addJob_17 fl_X6_85 (by first | assumption | exact J.v3 | exact J.v4 | exact J.v5 | exact J.v6 | exact J.l0 | exact J.l1 | exact J.l2 | exact J.l3 | exact J.row (by assumption) | exact J.ops (by assumption) | exact J.job (by assumption)) rfl (by decide) ?_
      rw [ej]
      refine bq_bipush (v := (nI 8)) dX6_addJob_20 (by decide) ?_
      refine bq_icmp_ne (tgt := 29) dX6_addJob_22 (by decide) (fun z9_ => absurd (show nI (m_nj σ) = nI 8 by rw [h2]) z9_) (fun c_22 => ?_)
      refine bq_iconst (v := (nI 2)) dX6_addJob_25 (by decide) ?_
      refine bq_goto (tgt := 30) dX6_addJob_26 (by decide) ?_
      refine bt_put0 dX6_addJob_30 fl_X6_74 (by first | assumption | exact J.v3 | exact J.v4 | exact J.v5 | exact J.v6 | exact J.l0 | exact J.l1 | exact J.l2 | exact J.l3 | exact J.row (by assumption) | exact J.ops (by assumption) | exact J.job (by assumption)) rfl (by decide) (by first | rfl | decide) (by first | rfl | decide) ?_
      refine bq_aload_n (i := 0) dX6_addJob_33 rfl ?_
      refine bt_get0 dX6_addJob_34 fl_X6_74 (by first | assumption | exact J.v3 | exact J.v4 | exact J.v5 | exact J.v6 | exact J.l0 | exact J.l1 | exact J.l2 | exact J.l3 | exact J.row (by assumption) | exact J.ops (by assumption) | exact J.job (by assumption)) rfl (by decide) ?_
      rw [b_gs_at]
      refine bq_if_le (tgt := 42) dX6_addJob_37 (by decide) (fun z9_ => absurd z9_ (show ¬ nI 2 ≤ 0 by decide)) (fun c_37 => ?_)
      refine bq_iconst (v := (nI 0)) dX6_addJob_40 (by decide) ?_
      exact bq_iret dX6_addJob_41 rfl (by first | rfl | decide) bq_ret_i
    · rw [show m_addJ σ x d = (nI (m_nj σ), bt_gs (bt_gs σ 8 18 (m_nj σ) d) 6 0 7 (nI (m_nj σ + 1)), m_thr x (nI 0)) from (if_neg h1).trans (if_neg h2)]
      refine bq_aload_n (i := 0) dX6_addJob_0 rfl ?_
      refine bq_iload_n (i := 1) dX6_addJob_1 rfl ?_
      refine bq_iconst (v := (nI 0)) dX6_addJob_2 (by decide) ?_
      refine bq_sipush (v := (nI 10000)) dX6_addJob_3 (by decide) ?_
      refine bq_callSr dX6_addJob_6 ml_X6_81 (n_in) (by decide) (by decide) (Nat.le_of_ble_eq_true rfl) rfl ?_
      refine bq_if_ne (tgt := 16) dX6_addJob_9 (by decide) (fun c_9 => ?_) (fun z9_ => absurd z9_ h1)
      refine bq_aload_n (i := 0) dX6_addJob_16 rfl ?_
      refine bt_get4 dX6_addJob_17 fl_X6_85 (by first | assumption | exact J.v3 | exact J.v4 | exact J.v5 | exact J.v6 | exact J.l0 | exact J.l1 | exact J.l2 | exact J.l3 | exact J.row (by assumption) | exact J.ops (by assumption) | exact J.job (by assumption)) rfl (by decide) ?_
      rw [ej]
      refine bq_bipush (v := (nI 8)) dX6_addJob_20 (by decide) ?_
      refine bq_icmp_ne (tgt := 29) dX6_addJob_22 (by decide) (fun c_22 => ?_) (fun z9_ => absurd z9_ (show ¬ nI (m_nj σ) = nI 8 from fun z => h2 ((nI_eq (by omega) (by omega)).mp z)))
      refine bq_iconst (v := (nI 0)) dX6_addJob_29 (by decide) ?_
      refine bt_put0 dX6_addJob_30 fl_X6_74 (by first | assumption | exact J.v3 | exact J.v4 | exact J.v5 | exact J.v6 | exact J.l0 | exact J.l1 | exact J.l2 | exact J.l3 | exact J.row (by assumption) | exact J.ops (by assumption) | exact J.job (by assumption)) rfl (by decide) (by first | rfl | decide) (by first | rfl | decide) ?_
      refine bq_aload_n (i := 0) dX6_addJob_33 rfl ?_
      refine bt_get0 dX6_addJob_34 fl_X6_74 (by first | assumption | exact J.v3 | exact J.v4 | exact J.v5 | exact J.v6 | exact J.l0 | exact J.l1 | exact J.l2 | exact J.l3 | exact J.row (by assumption) | exact J.ops (by assumption) | exact J.job (by assumption)) rfl (by decide) ?_
      rw [b_gs_at]
      refine bq_if_le (tgt := 42) dX6_addJob_37 (by decide) (fun c_37 => ?_) (fun z9_ => absurd (show nI 0 ≤ 0 by decide) z9_)
      refine bq_aload_n (i := 0) dX6_addJob_42 rfl ?_
      refine bt_get3 (c' := 8) (n := 18) dX6_addJob_43 fl_X6_25 (by first | assumption | exact J.v3 | exact J.v4 | exact J.v5 | exact J.v6 | exact J.l0 | exact J.l1 | exact J.l2 | exact J.l3 | exact J.row (by assumption) | exact J.ops (by assumption) | exact J.job (by assumption)) ⟨rfl, rfl, rfl⟩ (by decide) ?_
      refine bq_aload_n (i := 0) dX6_addJob_46 rfl ?_
      refine bt_get4 dX6_addJob_47 fl_X6_85 (by first | assumption | exact J.v3 | exact J.v4 | exact J.v5 | exact J.v6 | exact J.l0 | exact J.l1 | exact J.l2 | exact J.l3 | exact J.row (by assumption) | exact J.ops (by assumption) | exact J.job (by assumption)) rfl (by decide) ?_
      rw [ej]
      refine bq_iload_n (i := 1) dX6_addJob_50 rfl ?_
      refine bt_iast4 (n := 18) (j := (m_nj σ)) dX6_addJob_51 J.a18 rfl (by omega) (by decide) rfl ?_
      refine bq_aload_n (i := 0) dX6_addJob_52 rfl ?_
      refine bq_dup dX6_addJob_53 rfl ?_
      refine bt_get4 dX6_addJob_54 fl_X6_85 (by first | assumption | exact J.v3 | exact J.v4 | exact J.v5 | exact J.v6 | exact J.l0 | exact J.l1 | exact J.l2 | exact J.l3 | exact J.row (by assumption) | exact J.ops (by assumption) | exact J.job (by assumption)) rfl (by decide) ?_
      rw [b_gs_ne (by omega), ej]
      refine bq_iconst (v := (nI 1)) dX6_addJob_57 (by decide) ?_
      refine bq_iadd dX6_addJob_58 ?_
      rw [nI_add]
      refine bt_put4 dX6_addJob_59 fl_X6_85 (by first | assumption | exact J.v3 | exact J.v4 | exact J.v5 | exact J.v6 | exact J.l0 | exact J.l1 | exact J.l2 | exact J.l3 | exact J.row (by assumption) | exact J.ops (by assumption) | exact J.job (by assumption)) rfl (by decide) (by first | rfl | decide) (by first | rfl | decide) ?_
      refine bq_aload_n (i := 0) dX6_addJob_62 rfl ?_
      refine bt_get4 dX6_addJob_63 fl_X6_85 (by first | assumption | exact J.v3 | exact J.v4 | exact J.v5 | exact J.v6 | exact J.l0 | exact J.l1 | exact J.l2 | exact J.l3 | exact J.row (by assumption) | exact J.ops (by assumption) | exact J.job (by assumption)) rfl (by decide) ?_
      rw [b_gs_at]
      refine bq_iconst (v := (nI 1)) dX6_addJob_66 (by decide) ?_
      refine bq_isub dX6_addJob_67 ?_
      rw [pk_sub (by omega), Nat.add_sub_cancel]
      exact bq_iret dX6_addJob_68 rfl (by first | rfl | decide) bq_ret_i
def m_rng (l f t : Int32) : Int32 := if m_in l (nI 1) (nI 200) = 0 then nI 0 else if m_in f (nI 0) (nI 3) = 0 then nI 0 else if m_in t (nI 0) (nI 255) = 0 then nI 0 else nI 1
def m_opS (σ : bt_X) (j m : Nat) (l f t : Int32) : bt_X := bt_gs (bt_gs (bt_gs (bt_gs (bt_gs σ 8 21 (4 * j + m_np σ j) (nI m)) 8 22 (4 * j + m_np σ j) l) 8 23 (4 * j + m_np σ j) f) 8 24 (4 * j + m_np σ j) t) 8 19 j (nI (m_np σ j + 1))
noncomputable def m_addOv (σ x : bt_X) (a b l f t v : Int32) : m_Rt := match b_ix (m_nj σ) a with
  | none => (nI 0, σ, m_thr (m_thr x (nI 1)) (nI 1))
  | some j => match b_ix (m_nm σ) b with
    | none => (nI 0, σ, m_thr (m_thr x (nI 1)) (nI 1))
    | some m => if v = 0 then (nI 0, σ, m_thr (m_thr x (nI 2)) (nI 2)) else
        if m_np σ j = 4 then (nI 0, σ, m_thr (m_thr x (nI 0)) (nI 3)) else if σ.1 8 20 j = 0 then
          (if m_count t ≤ σ.1 8 12 m then (nI (m_np σ j), m_opS σ j m l f t, m_thr (m_thr x (nI 0)) (nI 0)) else (nI 0, σ, m_thr (m_thr x (nI 0)) (nI 3)))
        else (nI 0, σ, m_thr (m_thr x (nI 0)) (nI 3))
noncomputable def m_addO (σ x : bt_X) (a b l f t : Int32) : m_Rt := m_addOv σ x a b l f t (m_rng l f t)
set_option maxRecDepth 100000 in
set_option maxHeartbeats 400000 in
theorem n_addOv {G : bp_X} {α : bt_A} {σ x : bt_X} {a b l f t v : Int32} (J : m_J α) (hN : m_Nn σ) : bq_W G mX6_addOperation 2 40 [(0, .ref (bt_ad α 6 0)), (1, .int a), (2, .int b), (3, .int l), (4, .int f), (5, .int t), (6, .int v)] [] (bt α σ x) (bq_ret (some (.int (m_addOv σ x a b l f t v).1)) (bt α (m_addOv σ x a b l f t v).2.1 (m_addOv σ x a b l f t v).2.2)) := by
  cases e1 : b_ix (m_nj σ) a with
  | none =>
    rw [show m_addOv σ x a b l f t v = (nI 0, σ, m_thr (m_thr x (nI 1)) (nI 1)) by unfold m_addOv; rw [e1]]
    refine bq_aload_n (i := 0) dX6_addOperation_40 rfl ?_
    refine bq_aload_n (i := 0) dX6_addOperation_41 rfl ?_
    refine bq_iload_n (i := 1) dX6_addOperation_42 rfl ?_
    refine bt_callVr (c := 6) (i := 0) dX6_addOperation_43 rfl ml_X6_127 (by first | assumption | exact J.v3 | exact J.v4 | exact J.v5 | exact J.v6 | exact J.l0 | exact J.l1 | exact J.l2 | exact J.l3 | exact J.row (by assumption) | exact J.ops (by assumption) | exact J.job (by assumption)) (by decide) (n_isJob J hN) (by decide) (by decide) (Nat.le_of_ble_eq_true rfl) rfl ?_
    rw [e1]
    refine bq_if_eq (tgt := 57) dX6_addOperation_46 (by decide) (fun c_46 => ?_) (fun z9_ => absurd (show m_q none = 0 from rfl) z9_)
    refine bq_iconst (v := (nI 1)) dX6_addOperation_57 (by decide) ?_
    refine bq_goto (tgt := 71) dX6_addOperation_58 (by decide) ?_
    refine bt_put0 dX6_addOperation_71 fl_X6_74 (by first | assumption | exact J.v3 | exact J.v4 | exact J.v5 | exact J.v6 | exact J.l0 | exact J.l1 | exact J.l2 | exact J.l3 | exact J.row (by assumption) | exact J.ops (by assumption) | exact J.job (by assumption)) rfl (by decide) (by first | rfl | decide) (by first | rfl | decide) ?_
    refine bq_aload_n (i := 0) dX6_addOperation_74 rfl ?_
    refine bq_aload_n (i := 0) dX6_addOperation_75 rfl ?_
    refine bt_get0 dX6_addOperation_76 fl_X6_74 (by first | assumption | exact J.v3 | exact J.v4 | exact J.v5 | exact J.v6 | exact J.l0 | exact J.l1 | exact J.l2 | exact J.l3 | exact J.row (by assumption) | exact J.ops (by assumption) | exact J.job (by assumption)) rfl (by decide) ?_
    rw [b_gs_at]
    refine bq_if_ne (tgt := 119) dX6_addOperation_79 (by decide) (fun c_79 => ?_) (fun z9_ => absurd z9_ (show ¬ nI 1 = 0 by decide))
    refine bq_aload_n (i := 0) dX6_addOperation_119 rfl ?_
    refine bt_get0 dX6_addOperation_120 fl_X6_74 (by first | assumption | exact J.v3 | exact J.v4 | exact J.v5 | exact J.v6 | exact J.l0 | exact J.l1 | exact J.l2 | exact J.l3 | exact J.row (by assumption) | exact J.ops (by assumption) | exact J.job (by assumption)) rfl (by decide) ?_
    rw [b_gs_at]
    refine bt_put0 dX6_addOperation_123 fl_X6_74 (by first | assumption | exact J.v3 | exact J.v4 | exact J.v5 | exact J.v6 | exact J.l0 | exact J.l1 | exact J.l2 | exact J.l3 | exact J.row (by assumption) | exact J.ops (by assumption) | exact J.job (by assumption)) rfl (by decide) (by first | rfl | decide) (by first | rfl | decide) ?_
    refine bq_aload_n (i := 0) dX6_addOperation_126 rfl ?_
    refine bt_get0 dX6_addOperation_127 fl_X6_74 (by first | assumption | exact J.v3 | exact J.v4 | exact J.v5 | exact J.v6 | exact J.l0 | exact J.l1 | exact J.l2 | exact J.l3 | exact J.row (by assumption) | exact J.ops (by assumption) | exact J.job (by assumption)) rfl (by decide) ?_
    rw [b_gs_at]
    refine bq_if_le (tgt := 135) dX6_addOperation_130 (by decide) (fun z9_ => absurd z9_ (show ¬ nI 1 ≤ 0 by decide)) (fun c_130 => ?_)
    refine bq_iconst (v := (nI 0)) dX6_addOperation_133 (by decide) ?_
    exact bq_iret dX6_addOperation_134 rfl (by first | rfl | decide) bq_ret_i
  | some j =>
    have hj9 : m_nj σ < 9 := hN.2.1.l
    obtain ⟨ea, hjn⟩ := m_ix_e (by omega) e1
    have hj8 := m_nj8 hN hjn
    subst ea
    cases e2 : b_ix (m_nm σ) b with
    | none =>
      rw [show m_addOv σ x (nI j) b l f t v = (nI 0, σ, m_thr (m_thr x (nI 1)) (nI 1)) by unfold m_addOv; rw [e1]; simp only []; rw [e2]]
      refine bq_aload_n (i := 0) dX6_addOperation_40 rfl ?_
      refine bq_aload_n (i := 0) dX6_addOperation_41 rfl ?_
      refine bq_iload_n (i := 1) dX6_addOperation_42 rfl ?_
      refine bt_callVr (c := 6) (i := 0) dX6_addOperation_43 rfl ml_X6_127 (by first | assumption | exact J.v3 | exact J.v4 | exact J.v5 | exact J.v6 | exact J.l0 | exact J.l1 | exact J.l2 | exact J.l3 | exact J.row (by assumption) | exact J.ops (by assumption) | exact J.job (by assumption)) (by decide) (n_isJob J hN) (by decide) (by decide) (Nat.le_of_ble_eq_true rfl) rfl ?_
      rw [e1]
      refine bq_if_eq (tgt := 57) dX6_addOperation_46 (by decide) (fun z9_ => absurd z9_ (show ¬ m_q (some j) = 0 by show ¬ nI 1 = 0; decide)) (fun c_46 => ?_)
      refine bq_aload_n (i := 0) dX6_addOperation_49 rfl ?_
      refine bq_iload_n (i := 2) dX6_addOperation_50 rfl ?_
      refine bt_callVr (c := 6) (i := 0) dX6_addOperation_51 rfl ml_X6_120 (by first | assumption | exact J.v3 | exact J.v4 | exact J.v5 | exact J.v6 | exact J.l0 | exact J.l1 | exact J.l2 | exact J.l3 | exact J.row (by assumption) | exact J.ops (by assumption) | exact J.job (by assumption)) (by decide) (n_isMachine J hN) (by decide) (by decide) (Nat.le_of_ble_eq_true rfl) rfl ?_
      rw [e2]
      refine bq_if_ne (tgt := 61) dX6_addOperation_54 (by decide) (fun z9_ => absurd (show m_q none = 0 from rfl) z9_) (fun c_54 => ?_)
      refine bq_iconst (v := (nI 1)) dX6_addOperation_57 (by decide) ?_
      refine bq_goto (tgt := 71) dX6_addOperation_58 (by decide) ?_
      refine bt_put0 dX6_addOperation_71 fl_X6_74 (by first | assumption | exact J.v3 | exact J.v4 | exact J.v5 | exact J.v6 | exact J.l0 | exact J.l1 | exact J.l2 | exact J.l3 | exact J.row (by assumption) | exact J.ops (by assumption) | exact J.job (by assumption)) rfl (by decide) (by first | rfl | decide) (by first | rfl | decide) ?_
      refine bq_aload_n (i := 0) dX6_addOperation_74 rfl ?_
      refine bq_aload_n (i := 0) dX6_addOperation_75 rfl ?_
      refine bt_get0 dX6_addOperation_76 fl_X6_74 (by first | assumption | exact J.v3 | exact J.v4 | exact J.v5 | exact J.v6 | exact J.l0 | exact J.l1 | exact J.l2 | exact J.l3 | exact J.row (by assumption) | exact J.ops (by assumption) | exact J.job (by assumption)) rfl (by decide) ?_
      rw [b_gs_at]
      refine bq_if_ne (tgt := 119) dX6_addOperation_79 (by decide) (fun c_79 => ?_) (fun z9_ => absurd z9_ (show ¬ nI 1 = 0 by decide))
      refine bq_aload_n (i := 0) dX6_addOperation_119 rfl ?_
      refine bt_get0 dX6_addOperation_120 fl_X6_74 (by first | assumption | exact J.v3 | exact J.v4 | exact J.v5 | exact J.v6 | exact J.l0 | exact J.l1 | exact J.l2 | exact J.l3 | exact J.row (by assumption) | exact J.ops (by assumption) | exact J.job (by assumption)) rfl (by decide) ?_
      rw [b_gs_at]
      refine bt_put0 dX6_addOperation_123 fl_X6_74 (by first | assumption | exact J.v3 | exact J.v4 | exact J.v5 | exact J.v6 | exact J.l0 | exact J.l1 | exact J.l2 | exact J.l3 | exact J.row (by assumption) | exact J.ops (by assumption) | exact J.job (by assumption)) rfl (by decide) (by first | rfl | decide) (by first | rfl | decide) ?_
      refine bq_aload_n (i := 0) dX6_addOperation_126 rfl ?_
      refine bt_get0 dX6_addOperation_127 fl_X6_74 (by first | assumption | exact J.v3 | exact J.v4 | exact J.v5 | exact J.v6 | exact J.l0 | exact J.l1 | exact J.l2 | exact J.l3 | exact J.row (by assumption) | exact J.ops (by assumption) | exact J.job (by assumption)) rfl (by decide) ?_
      rw [b_gs_at]
      refine bq_if_le (tgt := 135) dX6_addOperation_130 (by decide) (fun z9_ => absurd z9_ (show ¬ nI 1 ≤ 0 by decide)) (fun c_130 => ?_)
      refine bq_iconst (v := (nI 0)) dX6_addOperation_133 (by decide) ?_
      exact bq_iret dX6_addOperation_134 rfl (by first | rfl | decide) bq_ret_i
    | some m =>
      have hm5 : m_nm σ < 5 := hN.1.l
      obtain ⟨eb, hmn⟩ := m_ix_e (by omega) e2
      have hm4 := m_nm4 hN hmn
      subst eb
      obtain ⟨g1, g2⟩ := m_np_e hN hj8
      by_cases hv : v = 0
      · rw [show m_addOv σ x (nI j) (nI m) l f t v = (nI 0, σ, m_thr (m_thr x (nI 2)) (nI 2)) by unfold m_addOv; rw [e1]; simp only []; rw [e2]; simp only []; exact if_pos hv]
        refine bq_aload_n (i := 0) dX6_addOperation_40 rfl ?_
        refine bq_aload_n (i := 0) dX6_addOperation_41 rfl ?_
        refine bq_iload_n (i := 1) dX6_addOperation_42 rfl ?_
        refine bt_callVr (c := 6) (i := 0) dX6_addOperation_43 rfl ml_X6_127 (by first | assumption | exact J.v3 | exact J.v4 | exact J.v5 | exact J.v6 | exact J.l0 | exact J.l1 | exact J.l2 | exact J.l3 | exact J.row (by assumption) | exact J.ops (by assumption) | exact J.job (by assumption)) (by decide) (n_isJob J hN) (by decide) (by decide) (Nat.le_of_ble_eq_true rfl) rfl ?_
        rw [e1]
        refine bq_if_eq (tgt := 57) dX6_addOperation_46 (by decide) (fun z9_ => absurd z9_ (show ¬ m_q (some j) = 0 by show ¬ nI 1 = 0; decide)) (fun c_46 => ?_)
        refine bq_aload_n (i := 0) dX6_addOperation_49 rfl ?_
        refine bq_iload_n (i := 2) dX6_addOperation_50 rfl ?_
        refine bt_callVr (c := 6) (i := 0) dX6_addOperation_51 rfl ml_X6_120 (by first | assumption | exact J.v3 | exact J.v4 | exact J.v5 | exact J.v6 | exact J.l0 | exact J.l1 | exact J.l2 | exact J.l3 | exact J.row (by assumption) | exact J.ops (by assumption) | exact J.job (by assumption)) (by decide) (n_isMachine J hN) (by decide) (by decide) (Nat.le_of_ble_eq_true rfl) rfl ?_
        rw [e2]
        refine bq_if_ne (tgt := 61) dX6_addOperation_54 (by decide) (fun c_54 => ?_) (fun z9_ => absurd z9_ (show ¬ m_q (some m) = 0 by show ¬ nI 1 = 0; decide))
        refine bq_iload (i := 6) dX6_addOperation_61 rfl ?_
        refine bq_if_ne (tgt := 70) dX6_addOperation_63 (by decide) (fun z9_ => absurd hv z9_) (fun c_63 => ?_)
        refine bq_iconst (v := (nI 2)) dX6_addOperation_66 (by decide) ?_
        refine bq_goto (tgt := 71) dX6_addOperation_67 (by decide) ?_
        refine bt_put0 dX6_addOperation_71 fl_X6_74 (by first | assumption | exact J.v3 | exact J.v4 | exact J.v5 | exact J.v6 | exact J.l0 | exact J.l1 | exact J.l2 | exact J.l3 | exact J.row (by assumption) | exact J.ops (by assumption) | exact J.job (by assumption)) rfl (by decide) (by first | rfl | decide) (by first | rfl | decide) ?_
        refine bq_aload_n (i := 0) dX6_addOperation_74 rfl ?_
        refine bq_aload_n (i := 0) dX6_addOperation_75 rfl ?_
        refine bt_get0 dX6_addOperation_76 fl_X6_74 (by first | assumption | exact J.v3 | exact J.v4 | exact J.v5 | exact J.v6 | exact J.l0 | exact J.l1 | exact J.l2 | exact J.l3 | exact J.row (by assumption) | exact J.ops (by assumption) | exact J.job (by assumption)) rfl (by decide) ?_
        rw [b_gs_at]
        refine bq_if_ne (tgt := 119) dX6_addOperation_79 (by decide) (fun c_79 => ?_) (fun z9_ => absurd z9_ (show ¬ nI 2 = 0 by decide))
        refine bq_aload_n (i := 0) dX6_addOperation_119 rfl ?_
        refine bt_get0 dX6_addOperation_120 fl_X6_74 (by first | assumption | exact J.v3 | exact J.v4 | exact J.v5 | exact J.v6 | exact J.l0 | exact J.l1 | exact J.l2 | exact J.l3 | exact J.row (by assumption) | exact J.ops (by assumption) | exact J.job (by assumption)) rfl (by decide) ?_
        rw [b_gs_at]
        refine bt_put0 dX6_addOperation_123 fl_X6_74 (by first | assumption | exact J.v3 | exact J.v4 | exact J.v5 | exact J.v6 | exact J.l0 | exact J.l1 | exact J.l2 | exact J.l3 | exact J.row (by assumption) | exact J.ops (by assumption) | exact J.job (by assumption)) rfl (by decide) (by first | rfl | decide) (by first | rfl | decide) ?_
        refine bq_aload_n (i := 0) dX6_addOperation_126 rfl ?_
        refine bt_get0 dX6_addOperation_127 fl_X6_74 (by first | assumption | exact J.v3 | exact J.v4 | exact J.v5 | exact J.v6 | exact J.l0 | exact J.l1 | exact J.l2 | exact J.l3 | exact J.row (by assumption) | exact J.ops (by assumption) | exact J.job (by assumption)) rfl (by decide) ?_
        rw [b_gs_at]
        refine bq_if_le (tgt := 135) dX6_addOperation_130 (by decide) (fun z9_ => absurd z9_ (show ¬ nI 2 ≤ 0 by decide)) (fun c_130 => ?_)
        refine bq_iconst (v := (nI 0)) dX6_addOperation_133 (by decide) ?_
        exact bq_iret dX6_addOperation_134 rfl (by first | rfl | decide) bq_ret_i
      · by_cases h4 : m_np σ j = 4
        · rw [show m_addOv σ x (nI j) (nI m) l f t v = (nI 0, σ, m_thr (m_thr x (nI 0)) (nI 3)) by unfold m_addOv; rw [e1]; simp only []; rw [e2]; simp only []; exact (if_neg hv).trans (if_pos h4)]
          refine bq_aload_n (i := 0) dX6_addOperation_40 rfl ?_
          refine bq_aload_n (i := 0) dX6_addOperation_41 rfl ?_
          refine bq_iload_n (i := 1) dX6_addOperation_42 rfl ?_
          refine bt_callVr (c := 6) (i := 0) dX6_addOperation_43 rfl ml_X6_127 (by first | assumption | exact J.v3 | exact J.v4 | exact J.v5 | exact J.v6 | exact J.l0 | exact J.l1 | exact J.l2 | exact J.l3 | exact J.row (by assumption) | exact J.ops (by assumption) | exact J.job (by assumption)) (by decide) (n_isJob J hN) (by decide) (by decide) (Nat.le_of_ble_eq_true rfl) rfl ?_
          rw [e1]
          refine bq_if_eq (tgt := 57) dX6_addOperation_46 (by decide) (fun z9_ => absurd z9_ (show ¬ m_q (some j) = 0 by show ¬ nI 1 = 0; decide)) (fun c_46 => ?_)
          refine bq_aload_n (i := 0) dX6_addOperation_49 rfl ?_
          refine bq_iload_n (i := 2) dX6_addOperation_50 rfl ?_
          refine bt_callVr (c := 6) (i := 0) dX6_addOperation_51 rfl ml_X6_120 (by first | assumption | exact J.v3 | exact J.v4 | exact J.v5 | exact J.v6 | exact J.l0 | exact J.l1 | exact J.l2 | exact J.l3 | exact J.row (by assumption) | exact J.ops (by assumption) | exact J.job (by assumption)) (by decide) (n_isMachine J hN) (by decide) (by decide) (Nat.le_of_ble_eq_true rfl) rfl ?_
          rw [e2]
          refine bq_if_ne (tgt := 61) dX6_addOperation_54 (by decide) (fun c_54 => ?_) (fun z9_ => absurd z9_ (show ¬ m_q (some m) = 0 by show ¬ nI 1 = 0; decide))
          refine bq_iload (i := 6) dX6_addOperation_61 rfl ?_
          refine bq_if_ne (tgt := 70) dX6_addOperation_63 (by decide) (fun c_63 => ?_) (fun z9_ => absurd z9_ hv)
          refine bq_iconst (v := (nI 0)) dX6_addOperation_70 (by decide) ?_
          refine bt_put0 dX6_addOperation_71 fl_X6_74 (by first | assumption | exact J.v3 | exact J.v4 | exact J.v5 | exact J.v6 | exact J.l0 | exact J.l1 | exact J.l2 | exact J.l3 | exact J.row (by assumption) | exact J.ops (by assumption) | exact J.job (by assumption)) rfl (by decide) (by first | rfl | decide) (by first | rfl | decide) ?_
          refine bq_aload_n (i := 0) dX6_addOperation_74 rfl ?_
          refine bq_aload_n (i := 0) dX6_addOperation_75 rfl ?_
          refine bt_get0 dX6_addOperation_76 fl_X6_74 (by first | assumption | exact J.v3 | exact J.v4 | exact J.v5 | exact J.v6 | exact J.l0 | exact J.l1 | exact J.l2 | exact J.l3 | exact J.row (by assumption) | exact J.ops (by assumption) | exact J.job (by assumption)) rfl (by decide) ?_
          rw [b_gs_at]
          refine bq_if_ne (tgt := 119) dX6_addOperation_79 (by decide) (fun z9_ => absurd (show nI 0 = 0 from rfl) z9_) (fun c_79 => ?_)
          refine bq_aload_n (i := 0) dX6_addOperation_82 rfl ?_
          refine bt_get3 (c' := 8) (n := 19) dX6_addOperation_83 fl_X6_28 (by first | assumption | exact J.v3 | exact J.v4 | exact J.v5 | exact J.v6 | exact J.l0 | exact J.l1 | exact J.l2 | exact J.l3 | exact J.row (by assumption) | exact J.ops (by assumption) | exact J.job (by assumption)) ⟨rfl, rfl, rfl⟩ (by decide) ?_
          refine bq_iload_n (i := 1) dX6_addOperation_86 rfl ?_
          refine bt_iald4 (n := 19) (j := j) dX6_addOperation_87 J.a19 rfl (by omega) (by decide) rfl ?_
          rw [g1]
          refine bq_iconst (v := (nI 4)) dX6_addOperation_88 (by decide) ?_
          refine bq_icmp_eq (tgt := 115) dX6_addOperation_89 (by decide) (fun c_89 => ?_) (fun z9_ => absurd (show nI (m_np σ j) = nI 4 by rw [h4]) z9_)
          refine bq_iconst (v := (nI 3)) dX6_addOperation_115 (by decide) ?_
          refine bq_goto (tgt := 123) dX6_addOperation_116 (by decide) ?_
          refine bt_put0 dX6_addOperation_123 fl_X6_74 (by first | assumption | exact J.v3 | exact J.v4 | exact J.v5 | exact J.v6 | exact J.l0 | exact J.l1 | exact J.l2 | exact J.l3 | exact J.row (by assumption) | exact J.ops (by assumption) | exact J.job (by assumption)) rfl (by decide) (by first | rfl | decide) (by first | rfl | decide) ?_
          refine bq_aload_n (i := 0) dX6_addOperation_126 rfl ?_
          refine bt_get0 dX6_addOperation_127 fl_X6_74 (by first | assumption | exact J.v3 | exact J.v4 | exact J.v5 | exact J.v6 | exact J.l0 | exact J.l1 | exact J.l2 | exact J.l3 | exact J.row (by assumption) | exact J.ops (by assumption) | exact J.job (by assumption)) rfl (by decide) ?_
          rw [b_gs_at]
          refine bq_if_le (tgt := 135) dX6_addOperation_130 (by decide) (fun z9_ => absurd z9_ (show ¬ nI 3 ≤ 0 by decide)) (fun c_130 => ?_)
          refine bq_iconst (v := (nI 0)) dX6_addOperation_133 (by decide) ?_
          exact bq_iret dX6_addOperation_134 rfl (by first | rfl | decide) bq_ret_i
        · by_cases h5 : σ.1 8 20 j = 0
          · by_cases h6 : m_count t ≤ σ.1 8 12 m
            · rw [show m_addOv σ x (nI j) (nI m) l f t v = (nI (m_np σ j), m_opS σ j m l f t, m_thr (m_thr x (nI 0)) (nI 0)) by unfold m_addOv; rw [e1]; simp only []; rw [e2]; simp only []; exact (if_neg hv).trans ((if_neg h4).trans ((if_pos h5).trans (if_pos h6)))]
              refine bq_aload_n (i := 0) dX6_addOperation_40 rfl ?_
              refine bq_aload_n (i := 0) dX6_addOperation_41 rfl ?_
              refine bq_iload_n (i := 1) dX6_addOperation_42 rfl ?_
              refine bt_callVr (c := 6) (i := 0) dX6_addOperation_43 rfl ml_X6_127 (by first | assumption | exact J.v3 | exact J.v4 | exact J.v5 | exact J.v6 | exact J.l0 | exact J.l1 | exact J.l2 | exact J.l3 | exact J.row (by assumption) | exact J.ops (by assumption) | exact J.job (by assumption)) (by decide) (n_isJob J hN) (by decide) (by decide) (Nat.le_of_ble_eq_true rfl) rfl ?_
              rw [e1]
              refine bq_if_eq (tgt := 57) dX6_addOperation_46 (by decide) (fun z9_ => absurd z9_ (show ¬ m_q (some j) = 0 by show ¬ nI 1 = 0; decide)) (fun c_46 => ?_)
              refine bq_aload_n (i := 0) dX6_addOperation_49 rfl ?_
              refine bq_iload_n (i := 2) dX6_addOperation_50 rfl ?_
              refine bt_callVr (c := 6) (i := 0) dX6_addOperation_51 rfl ml_X6_120 (by first | assumption | exact J.v3 | exact J.v4 | exact J.v5 | exact J.v6 | exact J.l0 | exact J.l1 | exact J.l2 | exact J.l3 | exact J.row (by assumption) | exact J.ops (by assumption) | exact J.job (by assumption)) (by decide) (n_isMachine J hN) (by decide) (by decide) (Nat.le_of_ble_eq_true rfl) rfl ?_
              rw [e2]
              refine bq_if_ne (tgt := 61) dX6_addOperation_54 (by decide) (fun c_54 => ?_) (fun z9_ => absurd z9_ (show ¬ m_q (some m) = 0 by show ¬ nI 1 = 0; decide))
              refine bq_iload (i := 6) dX6_addOperation_61 rfl ?_
              refine bq_if_ne (tgt := 70) dX6_addOperation_63 (by decide) (fun c_63 => ?_) (fun z9_ => absurd z9_ hv)
              refine bq_iconst (v := (nI 0)) dX6_addOperation_70 (by decide) ?_
              refine bt_put0 dX6_addOperation_71 fl_X6_74 (by first | assumption | exact J.v3 | exact J.v4 | exact J.v5 | exact J.v6 | exact J.l0 | exact J.l1 | exact J.l2 | exact J.l3 | exact J.row (by assumption) | exact J.ops (by assumption) | exact J.job (by assumption)) rfl (by decide) (by first | rfl | decide) (by first | rfl | decide) ?_
              refine bq_aload_n (i := 0) dX6_addOperation_74 rfl ?_
              refine bq_aload_n (i := 0) dX6_addOperation_75 rfl ?_
              refine bt_get0 dX6_addOperation_76 fl_X6_74 (by first | assumption | exact J.v3 | exact J.v4 | exact J.v5 | exact J.v6 | exact J.l0 | exact J.l1 | exact J.l2 | exact J.l3 | exact J.row (by assumption) | exact J.ops (by assumption) | exact J.job (by assumption)) rfl (by decide) ?_
              rw [b_gs_at]
              refine bq_if_ne (tgt := 119) dX6_addOperation_79 (by decide) (fun z9_ => absurd (show nI 0 = 0 from rfl) z9_) (fun c_79 => ?_)
              refine bq_aload_n (i := 0) dX6_addOperation_82 rfl ?_
              refine bt_get3 (c' := 8) (n := 19) dX6_addOperation_83 fl_X6_28 (by first | assumption | exact J.v3 | exact J.v4 | exact J.v5 | exact J.v6 | exact J.l0 | exact J.l1 | exact J.l2 | exact J.l3 | exact J.row (by assumption) | exact J.ops (by assumption) | exact J.job (by assumption)) ⟨rfl, rfl, rfl⟩ (by decide) ?_
              refine bq_iload_n (i := 1) dX6_addOperation_86 rfl ?_
              refine bt_iald4 (n := 19) (j := j) dX6_addOperation_87 J.a19 rfl (by omega) (by decide) rfl ?_
              rw [g1]
              refine bq_iconst (v := (nI 4)) dX6_addOperation_88 (by decide) ?_
              refine bq_icmp_eq (tgt := 115) dX6_addOperation_89 (by decide) (fun z9_ => absurd z9_ (show ¬ nI (m_np σ j) = nI 4 from fun z => h4 ((nI_eq (by omega) (by omega)).mp z))) (fun c_89 => ?_)
              refine bq_aload_n (i := 0) dX6_addOperation_92 rfl ?_
              refine bt_get3 (c' := 8) (n := 20) dX6_addOperation_93 fl_X6_31 (by first | assumption | exact J.v3 | exact J.v4 | exact J.v5 | exact J.v6 | exact J.l0 | exact J.l1 | exact J.l2 | exact J.l3 | exact J.row (by assumption) | exact J.ops (by assumption) | exact J.job (by assumption)) ⟨rfl, rfl, rfl⟩ (by decide) ?_
              refine bq_iload_n (i := 1) dX6_addOperation_96 rfl ?_
              refine bt_zald4 (n := 20) (j := j) dX6_addOperation_97 J.a20 rfl (by omega) (by decide) rfl ?_
              refine bq_if_ne (tgt := 115) dX6_addOperation_98 (by decide) (fun z9_ => absurd h5 z9_) (fun c_98 => ?_)
              refine bq_iload (i := 5) dX6_addOperation_101 rfl ?_
              refine bq_callSr dX6_addOperation_103 ml_X6_124 (n_count) (by decide) (by decide) (Nat.le_of_ble_eq_true rfl) rfl ?_
              refine bq_aload_n (i := 0) dX6_addOperation_106 rfl ?_
              refine bt_get3 (c' := 8) (n := 12) dX6_addOperation_107 fl_X6_7 (by first | assumption | exact J.v3 | exact J.v4 | exact J.v5 | exact J.v6 | exact J.l0 | exact J.l1 | exact J.l2 | exact J.l3 | exact J.row (by assumption) | exact J.ops (by assumption) | exact J.job (by assumption)) ⟨rfl, rfl, rfl⟩ (by decide) ?_
              refine bq_iload_n (i := 2) dX6_addOperation_110 rfl ?_
              refine bt_iald4 (n := 12) (j := m) dX6_addOperation_111 J.a12 rfl (by omega) (by decide) rfl ?_
              refine bq_icmp_le (tgt := 119) dX6_addOperation_112 (by decide) (fun c_112 => ?_) (fun z9_ => absurd h6 z9_)
              refine bq_aload_n (i := 0) dX6_addOperation_119 rfl ?_
              refine bt_get0 dX6_addOperation_120 fl_X6_74 (by first | assumption | exact J.v3 | exact J.v4 | exact J.v5 | exact J.v6 | exact J.l0 | exact J.l1 | exact J.l2 | exact J.l3 | exact J.row (by assumption) | exact J.ops (by assumption) | exact J.job (by assumption)) rfl (by decide) ?_
              rw [b_gs_at]
              refine bt_put0 dX6_addOperation_123 fl_X6_74 (by first | assumption | exact J.v3 | exact J.v4 | exact J.v5 | exact J.v6 | exact J.l0 | exact J.l1 | exact J.l2 | exact J.l3 | exact J.row (by assumption) | exact J.ops (by assumption) | exact J.job (by assumption)) rfl (by decide) (by first | rfl | decide) (by first | rfl | decide) ?_
              refine bq_aload_n (i := 0) dX6_addOperation_126 rfl ?_
              refine bt_get0 dX6_addOperation_127 fl_X6_74 (by first | assumption | exact J.v3 | exact J.v4 | exact J.v5 | exact J.v6 | exact J.l0 | exact J.l1 | exact J.l2 | exact J.l3 | exact J.row (by assumption) | exact J.ops (by assumption) | exact J.job (by assumption)) rfl (by decide) ?_
              rw [b_gs_at]
              refine bq_if_le (tgt := 135) dX6_addOperation_130 (by decide) (fun c_130 => ?_) (fun z9_ => absurd (show nI 0 ≤ 0 by decide) z9_)
              refine bq_iconst (v := (nI 4)) dX6_addOperation_135 (by decide) ?_
              refine bq_iload_n (i := 1) dX6_addOperation_136 rfl ?_
              refine bq_imul dX6_addOperation_137 ?_
              refine bq_aload_n (i := 0) dX6_addOperation_138 rfl ?_
              refine bt_get3 (c' := 8) (n := 19) dX6_addOperation_139 fl_X6_28 (by first | assumption | exact J.v3 | exact J.v4 | exact J.v5 | exact J.v6 | exact J.l0 | exact J.l1 | exact J.l2 | exact J.l3 | exact J.row (by assumption) | exact J.ops (by assumption) | exact J.job (by assumption)) ⟨rfl, rfl, rfl⟩ (by decide) ?_
              refine bq_iload_n (i := 1) dX6_addOperation_142 rfl ?_
              refine bt_iald4 (n := 19) (j := j) dX6_addOperation_143 J.a19 rfl (by omega) (by decide) rfl ?_
              rw [g1]
              refine bq_iadd dX6_addOperation_144 ?_
              rw [pk_mul, nI_add]
              refine bq_istore (i := 7) dX6_addOperation_145 (by decide) ?_
              refine bq_aload_n (i := 0) dX6_addOperation_147 rfl ?_
              refine bt_get3 (c' := 8) (n := 21) dX6_addOperation_148 fl_X6_35 (by first | assumption | exact J.v3 | exact J.v4 | exact J.v5 | exact J.v6 | exact J.l0 | exact J.l1 | exact J.l2 | exact J.l3 | exact J.row (by assumption) | exact J.ops (by assumption) | exact J.job (by assumption)) ⟨rfl, rfl, rfl⟩ (by decide) ?_
              refine bq_iload (i := 7) dX6_addOperation_151 rfl ?_
              refine bq_iload_n (i := 2) dX6_addOperation_153 rfl ?_
              refine bt_iast4 (n := 21) (j := (4 * j + m_np σ j)) dX6_addOperation_154 J.a21 rfl (by omega) (by decide) rfl ?_
              refine bq_aload_n (i := 0) dX6_addOperation_155 rfl ?_
              refine bt_get3 (c' := 8) (n := 22) dX6_addOperation_156 fl_X6_38 (by first | assumption | exact J.v3 | exact J.v4 | exact J.v5 | exact J.v6 | exact J.l0 | exact J.l1 | exact J.l2 | exact J.l3 | exact J.row (by assumption) | exact J.ops (by assumption) | exact J.job (by assumption)) ⟨rfl, rfl, rfl⟩ (by decide) ?_
              refine bq_iload (i := 7) dX6_addOperation_159 rfl ?_
              refine bq_iload_n (i := 3) dX6_addOperation_161 rfl ?_
              refine bt_iast4 (n := 22) (j := (4 * j + m_np σ j)) dX6_addOperation_162 J.a22 rfl (by omega) (by decide) rfl ?_
              refine bq_aload_n (i := 0) dX6_addOperation_163 rfl ?_
              refine bt_get3 (c' := 8) (n := 23) dX6_addOperation_164 fl_X6_41 (by first | assumption | exact J.v3 | exact J.v4 | exact J.v5 | exact J.v6 | exact J.l0 | exact J.l1 | exact J.l2 | exact J.l3 | exact J.row (by assumption) | exact J.ops (by assumption) | exact J.job (by assumption)) ⟨rfl, rfl, rfl⟩ (by decide) ?_
              refine bq_iload (i := 7) dX6_addOperation_167 rfl ?_
              refine bq_iload (i := 4) dX6_addOperation_169 rfl ?_
              refine bt_iast4 (n := 23) (j := (4 * j + m_np σ j)) dX6_addOperation_171 J.a23 rfl (by omega) (by decide) rfl ?_
              refine bq_aload_n (i := 0) dX6_addOperation_172 rfl ?_
              refine bt_get3 (c' := 8) (n := 24) dX6_addOperation_173 fl_X6_44 (by first | assumption | exact J.v3 | exact J.v4 | exact J.v5 | exact J.v6 | exact J.l0 | exact J.l1 | exact J.l2 | exact J.l3 | exact J.row (by assumption) | exact J.ops (by assumption) | exact J.job (by assumption)) ⟨rfl, rfl, rfl⟩ (by decide) ?_
              refine bq_iload (i := 7) dX6_addOperation_176 rfl ?_
              refine bq_iload (i := 5) dX6_addOperation_178 rfl ?_
              refine bt_iast4 (n := 24) (j := (4 * j + m_np σ j)) dX6_addOperation_180 J.a24 rfl (by omega) (by decide) rfl ?_
              refine bq_aload_n (i := 0) dX6_addOperation_181 rfl ?_
              refine bt_get3 (c' := 8) (n := 19) dX6_addOperation_182 fl_X6_28 (by first | assumption | exact J.v3 | exact J.v4 | exact J.v5 | exact J.v6 | exact J.l0 | exact J.l1 | exact J.l2 | exact J.l3 | exact J.row (by assumption) | exact J.ops (by assumption) | exact J.job (by assumption)) ⟨rfl, rfl, rfl⟩ (by decide) ?_
              refine bq_iload_n (i := 1) dX6_addOperation_185 rfl ?_
              refine bq_dup2 dX6_addOperation_186 rfl rfl ?_
              refine bt_iald4 (n := 19) (j := j) dX6_addOperation_187 J.a19 rfl (by omega) (by decide) rfl ?_
              rw [b_gs_ne (by omega), b_gs_ne (by omega), b_gs_ne (by omega), b_gs_ne (by omega), g1]
              refine bq_iconst (v := (nI 1)) dX6_addOperation_188 (by decide) ?_
              refine bq_iadd dX6_addOperation_189 ?_
              rw [nI_add]
              refine bt_iast4 (n := 19) (j := j) dX6_addOperation_190 J.a19 rfl (by omega) (by decide) rfl ?_
              refine bq_aload_n (i := 0) dX6_addOperation_191 rfl ?_
              refine bt_get3 (c' := 8) (n := 19) dX6_addOperation_192 fl_X6_28 (by first | assumption | exact J.v3 | exact J.v4 | exact J.v5 | exact J.v6 | exact J.l0 | exact J.l1 | exact J.l2 | exact J.l3 | exact J.row (by assumption) | exact J.ops (by assumption) | exact J.job (by assumption)) ⟨rfl, rfl, rfl⟩ (by decide) ?_
              refine bq_iload_n (i := 1) dX6_addOperation_195 rfl ?_
              refine bt_iald4 (n := 19) (j := j) dX6_addOperation_196 J.a19 rfl (by omega) (by decide) rfl ?_
              rw [b_gs_at]
              refine bq_iconst (v := (nI 1)) dX6_addOperation_197 (by decide) ?_
              refine bq_isub dX6_addOperation_198 ?_
              rw [pk_sub (by omega), Nat.add_sub_cancel]
              exact bq_iret dX6_addOperation_199 rfl (by first | rfl | decide) bq_ret_i
            · rw [show m_addOv σ x (nI j) (nI m) l f t v = (nI 0, σ, m_thr (m_thr x (nI 0)) (nI 3)) by unfold m_addOv; rw [e1]; simp only []; rw [e2]; simp only []; exact (if_neg hv).trans ((if_neg h4).trans ((if_pos h5).trans (if_neg h6)))]
              refine bq_aload_n (i := 0) dX6_addOperation_40 rfl ?_
              refine bq_aload_n (i := 0) dX6_addOperation_41 rfl ?_
              refine bq_iload_n (i := 1) dX6_addOperation_42 rfl ?_
              refine bt_callVr (c := 6) (i := 0) dX6_addOperation_43 rfl ml_X6_127 (by first | assumption | exact J.v3 | exact J.v4 | exact J.v5 | exact J.v6 | exact J.l0 | exact J.l1 | exact J.l2 | exact J.l3 | exact J.row (by assumption) | exact J.ops (by assumption) | exact J.job (by assumption)) (by decide) (n_isJob J hN) (by decide) (by decide) (Nat.le_of_ble_eq_true rfl) rfl ?_
              rw [e1]
              refine bq_if_eq (tgt := 57) dX6_addOperation_46 (by decide) (fun z9_ => absurd z9_ (show ¬ m_q (some j) = 0 by show ¬ nI 1 = 0; decide)) (fun c_46 => ?_)
              refine bq_aload_n (i := 0) dX6_addOperation_49 rfl ?_
              refine bq_iload_n (i := 2) dX6_addOperation_50 rfl ?_
              refine bt_callVr (c := 6) (i := 0) dX6_addOperation_51 rfl ml_X6_120 (by first | assumption | exact J.v3 | exact J.v4 | exact J.v5 | exact J.v6 | exact J.l0 | exact J.l1 | exact J.l2 | exact J.l3 | exact J.row (by assumption) | exact J.ops (by assumption) | exact J.job (by assumption)) (by decide) (n_isMachine J hN) (by decide) (by decide) (Nat.le_of_ble_eq_true rfl) rfl ?_
              rw [e2]
              refine bq_if_ne (tgt := 61) dX6_addOperation_54 (by decide) (fun c_54 => ?_) (fun z9_ => absurd z9_ (show ¬ m_q (some m) = 0 by show ¬ nI 1 = 0; decide))
              refine bq_iload (i := 6) dX6_addOperation_61 rfl ?_
              refine bq_if_ne (tgt := 70) dX6_addOperation_63 (by decide) (fun c_63 => ?_) (fun z9_ => absurd z9_ hv)
              refine bq_iconst (v := (nI 0)) dX6_addOperation_70 (by decide) ?_
              refine bt_put0 dX6_addOperation_71 fl_X6_74 (by first | assumption | exact J.v3 | exact J.v4 | exact J.v5 | exact J.v6 | exact J.l0 | exact J.l1 | exact J.l2 | exact J.l3 | exact J.row (by assumption) | exact J.ops (by assumption) | exact J.job (by assumption)) rfl (by decide) (by first | rfl | decide) (by first | rfl | decide) ?_
              refine bq_aload_n (i := 0) dX6_addOperation_74 rfl ?_
              refine bq_aload_n (i := 0) dX6_addOperation_75 rfl ?_
              refine bt_get0 dX6_addOperation_76 fl_X6_74 (by first | assumption | exact J.v3 | exact J.v4 | exact J.v5 | exact J.v6 | exact J.l0 | exact J.l1 | exact J.l2 | exact J.l3 | exact J.row (by assumption) | exact J.ops (by assumption) | exact J.job (by assumption)) rfl (by decide) ?_
              rw [b_gs_at]
              refine bq_if_ne (tgt := 119) dX6_addOperation_79 (by decide) (fun z9_ => absurd (show nI 0 = 0 from rfl) z9_) (fun c_79 => ?_)
              refine bq_aload_n (i := 0) dX6_addOperation_82 rfl ?_
              refine bt_get3 (c' := 8) (n := 19) dX6_addOperation_83 fl_X6_28 (by first | assumption | exact J.v3 | exact J.v4 | exact J.v5 | exact J.v6 | exact J.l0 | exact J.l1 | exact J.l2 | exact J.l3 | exact J.row (by assumption) | exact J.ops (by assumption) | exact J.job (by assumption)) ⟨rfl, rfl, rfl⟩ (by decide) ?_
              refine bq_iload_n (i := 1) dX6_addOperation_86 rfl ?_
              refine bt_iald4 (n := 19) (j := j) dX6_addOperation_87 J.a19 rfl (by omega) (by decide) rfl ?_
              rw [g1]
              refine bq_iconst (v := (nI 4)) dX6_addOperation_88 (by decide) ?_
              refine bq_icmp_eq (tgt := 115) dX6_addOperation_89 (by decide) (fun z9_ => absurd z9_ (show ¬ nI (m_np σ j) = nI 4 from fun z => h4 ((nI_eq (by omega) (by omega)).mp z))) (fun c_89 => ?_)
              refine bq_aload_n (i := 0) dX6_addOperation_92 rfl ?_
              refine bt_get3 (c' := 8) (n := 20) dX6_addOperation_93 fl_X6_31 (by first | assumption | exact J.v3 | exact J.v4 | exact J.v5 | exact J.v6 | exact J.l0 | exact J.l1 | exact J.l2 | exact J.l3 | exact J.row (by assumption) | exact J.ops (by assumption) | exact J.job (by assumption)) ⟨rfl, rfl, rfl⟩ (by decide) ?_
              refine bq_iload_n (i := 1) dX6_addOperation_96 rfl ?_
              refine bt_zald4 (n := 20) (j := j) dX6_addOperation_97 J.a20 rfl (by omega) (by decide) rfl ?_
              refine bq_if_ne (tgt := 115) dX6_addOperation_98 (by decide) (fun z9_ => absurd h5 z9_) (fun c_98 => ?_)
              refine bq_iload (i := 5) dX6_addOperation_101 rfl ?_
              refine bq_callSr dX6_addOperation_103 ml_X6_124 (n_count) (by decide) (by decide) (Nat.le_of_ble_eq_true rfl) rfl ?_
              refine bq_aload_n (i := 0) dX6_addOperation_106 rfl ?_
              refine bt_get3 (c' := 8) (n := 12) dX6_addOperation_107 fl_X6_7 (by first | assumption | exact J.v3 | exact J.v4 | exact J.v5 | exact J.v6 | exact J.l0 | exact J.l1 | exact J.l2 | exact J.l3 | exact J.row (by assumption) | exact J.ops (by assumption) | exact J.job (by assumption)) ⟨rfl, rfl, rfl⟩ (by decide) ?_
              refine bq_iload_n (i := 2) dX6_addOperation_110 rfl ?_
              refine bt_iald4 (n := 12) (j := m) dX6_addOperation_111 J.a12 rfl (by omega) (by decide) rfl ?_
              refine bq_icmp_le (tgt := 119) dX6_addOperation_112 (by decide) (fun z9_ => absurd z9_ h6) (fun c_112 => ?_)
              refine bq_iconst (v := (nI 3)) dX6_addOperation_115 (by decide) ?_
              refine bq_goto (tgt := 123) dX6_addOperation_116 (by decide) ?_
              refine bt_put0 dX6_addOperation_123 fl_X6_74 (by first | assumption | exact J.v3 | exact J.v4 | exact J.v5 | exact J.v6 | exact J.l0 | exact J.l1 | exact J.l2 | exact J.l3 | exact J.row (by assumption) | exact J.ops (by assumption) | exact J.job (by assumption)) rfl (by decide) (by first | rfl | decide) (by first | rfl | decide) ?_
              refine bq_aload_n (i := 0) dX6_addOperation_126 rfl ?_
              refine bt_get0 dX6_addOperation_127 fl_X6_74 (by first | assumption | exact J.v3 | exact J.v4 | exact J.v5 | exact J.v6 | exact J.l0 | exact J.l1 | exact J.l2 | exact J.l3 | exact J.row (by assumption) | exact J.ops (by assumption) | exact J.job (by assumption)) rfl (by decide) ?_
              rw [b_gs_at]
              refine bq_if_le (tgt := 135) dX6_addOperation_130 (by decide) (fun z9_ => absurd z9_ (show ¬ nI 3 ≤ 0 by decide)) (fun c_130 => ?_)
              refine bq_iconst (v := (nI 0)) dX6_addOperation_133 (by decide) ?_
              exact bq_iret dX6_addOperation_134 rfl (by first | rfl | decide) bq_ret_i
          · rw [show m_addOv σ x (nI j) (nI m) l f t v = (nI 0, σ, m_thr (m_thr x (nI 0)) (nI 3)) by unfold m_addOv; rw [e1]; simp only []; rw [e2]; simp only []; exact (if_neg hv).trans ((if_neg h4).trans (if_neg h5))]
            refine bq_aload_n (i := 0) dX6_addOperation_40 rfl ?_
            refine bq_aload_n (i := 0) dX6_addOperation_41 rfl ?_
            refine bq_iload_n (i := 1) dX6_addOperation_42 rfl ?_
            refine bt_callVr (c := 6) (i := 0) dX6_addOperation_43 rfl ml_X6_127 (by first | assumption | exact J.v3 | exact J.v4 | exact J.v5 | exact J.v6 | exact J.l0 | exact J.l1 | exact J.l2 | exact J.l3 | exact J.row (by assumption) | exact J.ops (by assumption) | exact J.job (by assumption)) (by decide) (n_isJob J hN) (by decide) (by decide) (Nat.le_of_ble_eq_true rfl) rfl ?_
            rw [e1]
            refine bq_if_eq (tgt := 57) dX6_addOperation_46 (by decide) (fun z9_ => absurd z9_ (show ¬ m_q (some j) = 0 by show ¬ nI 1 = 0; decide)) (fun c_46 => ?_)
            refine bq_aload_n (i := 0) dX6_addOperation_49 rfl ?_
            refine bq_iload_n (i := 2) dX6_addOperation_50 rfl ?_
            refine bt_callVr (c := 6) (i := 0) dX6_addOperation_51 rfl ml_X6_120 (by first | assumption | exact J.v3 | exact J.v4 | exact J.v5 | exact J.v6 | exact J.l0 | exact J.l1 | exact J.l2 | exact J.l3 | exact J.row (by assumption) | exact J.ops (by assumption) | exact J.job (by assumption)) (by decide) (n_isMachine J hN) (by decide) (by decide) (Nat.le_of_ble_eq_true rfl) rfl ?_
            rw [e2]
            refine bq_if_ne (tgt := 61) dX6_addOperation_54 (by decide) (fun c_54 => ?_) (fun z9_ => absurd z9_ (show ¬ m_q (some m) = 0 by show ¬ nI 1 = 0; decide))
            refine bq_iload (i := 6) dX6_addOperation_61 rfl ?_
            refine bq_if_ne (tgt := 70) dX6_addOperation_63 (by decide) (fun c_63 => ?_) (fun z9_ => absurd z9_ hv)
            refine bq_iconst (v := (nI 0)) dX6_addOperation_70 (by decide) ?_
            refine bt_put0 dX6_addOperation_71 fl_X6_74 (by first | assumption | exact J.v3 | exact J.v4 | exact J.v5 | exact J.v6 | exact J.l0 | exact J.l1 | exact J.l2 | exact J.l3 | exact J.row (by assumption) | exact J.ops (by assumption) | exact J.job (by assumption)) rfl (by decide) (by first | rfl | decide) (by first | rfl | decide) ?_
            refine bq_aload_n (i := 0) dX6_addOperation_74 rfl ?_
            refine bq_aload_n (i := 0) dX6_addOperation_75 rfl ?_
            refine bt_get0 dX6_addOperation_76 fl_X6_74 (by first | assumption | exact J.v3 | exact J.v4 | exact J.v5 | exact J.v6 | exact J.l0 | exact J.l1 | exact J.l2 | exact J.l3 | exact J.row (by assumption) | exact J.ops (by assumption) | exact J.job (by assumption)) rfl (by decide) ?_
            rw [b_gs_at]
            refine bq_if_ne (tgt := 119) dX6_addOperation_79 (by decide) (fun z9_ => absurd (show nI 0 = 0 from rfl) z9_) (fun c_79 => ?_)
            refine bq_aload_n (i := 0) dX6_addOperation_82 rfl ?_
            refine bt_get3 (c' := 8) (n := 19) dX6_addOperation_83 fl_X6_28 (by first | assumption | exact J.v3 | exact J.v4 | exact J.v5 | exact J.v6 | exact J.l0 | exact J.l1 | exact J.l2 | exact J.l3 | exact J.row (by assumption) | exact J.ops (by assumption) | exact J.job (by assumption)) ⟨rfl, rfl, rfl⟩ (by decide) ?_
            refine bq_iload_n (i := 1) dX6_addOperation_86 rfl ?_
            refine bt_iald4 (n := 19) (j := j) dX6_addOperation_87 J.a19 rfl (by omega) (by decide) rfl ?_
            rw [g1]
            refine bq_iconst (v := (nI 4)) dX6_addOperation_88 (by decide) ?_
            refine bq_icmp_eq (tgt := 115) dX6_addOperation_89 (by decide) (fun z9_ => absurd z9_ (show ¬ nI (m_np σ j) = nI 4 from fun z => h4 ((nI_eq (by omega) (by omega)).mp z))) (fun c_89 => ?_)
            refine bq_aload_n (i := 0) dX6_addOperation_92 rfl ?_
            refine bt_get3 (c' := 8) (n := 20) dX6_addOperation_93 fl_X6_31 (by first | assumption | exact J.v3 | exact J.v4 | exact J.v5 | exact J.v6 | exact J.l0 | exact J.l1 | exact J.l2 | exact J.l3 | exact J.row (by assumption) | exact J.ops (by assumption) | exact J.job (by assumption)) ⟨rfl, rfl, rfl⟩ (by decide) ?_
            refine bq_iload_n (i := 1) dX6_addOperation_96 rfl ?_
            refine bt_zald4 (n := 20) (j := j) dX6_addOperation_97 J.a20 rfl (by omega) (by decide) rfl ?_
            refine bq_if_ne (tgt := 115) dX6_addOperation_98 (by decide) (fun c_98 => ?_) (fun z9_ => absurd z9_ h5)
            refine bq_iconst (v := (nI 3)) dX6_addOperation_115 (by decide) ?_
            refine bq_goto (tgt := 123) dX6_addOperation_116 (by decide) ?_
            refine bt_put0 dX6_addOperation_123 fl_X6_74 (by first | assumption | exact J.v3 | exact J.v4 | exact J.v5 | exact J.v6 | exact J.l0 | exact J.l1 | exact J.l2 | exact J.l3 | exact J.row (by assumption) | exact J.ops (by assumption) | exact J.job (by assumption)) rfl (by decide) (by first | rfl | decide) (by first | rfl | decide) ?_
            refine bq_aload_n (i := 0) dX6_addOperation_126 rfl ?_
            refine bt_get0 dX6_addOperation_127 fl_X6_74 (by first | assumption | exact J.v3 | exact J.v4 | exact J.v5 | exact J.v6 | exact J.l0 | exact J.l1 | exact J.l2 | exact J.l3 | exact J.row (by assumption) | exact J.ops (by assumption) | exact J.job (by assumption)) rfl (by decide) ?_
            rw [b_gs_at]
            refine bq_if_le (tgt := 135) dX6_addOperation_130 (by decide) (fun z9_ => absurd z9_ (show ¬ nI 3 ≤ 0 by decide)) (fun c_130 => ?_)
            refine bq_iconst (v := (nI 0)) dX6_addOperation_133 (by decide) ?_
            exact bq_iret dX6_addOperation_134 rfl (by first | rfl | decide) bq_ret_i
set_option maxRecDepth 100000 in
set_option maxHeartbeats 400000 in
theorem n_addO {G : bp_X} {α : bt_A} {σ x : bt_X} {a b l f t : Int32} (J : m_J α) (hN : m_Nn σ) : bq_S G mX6_addOperation 2 [.ref (bt_ad α 6 0), .int a, .int b, .int l, .int f, .int t] (bt α σ x) (bq_ret (some (.int (m_addO σ x a b l f t).1)) (bt α (m_addO σ x a b l f t).2.1 (m_addO σ x a b l f t).2.2)) := by
  refine bq_ofW (by decide +kernel) rfl (Nat.le_of_ble_eq_true rfl) ?_
  unfold m_addO
  refine bq_iload_n (i := 3) dX6_addOperation_0 rfl ?_
  refine bq_iconst (v := (nI 1)) dX6_addOperation_1 (by decide) ?_
  refine bq_sipush (v := (nI 200)) dX6_addOperation_2 (by decide) ?_
  refine bq_callSr dX6_addOperation_5 ml_X6_81 (n_in) (by decide) (by decide) (Nat.le_of_ble_eq_true rfl) rfl ?_
  refine bq_if_eq (tgt := 37) dX6_addOperation_8 (by decide) (fun c_8 => ?_) (fun c_8 => ?_)
  · rw [show m_rng l f t = nI 0 from if_pos c_8]
    refine bq_iconst (v := (nI 0)) dX6_addOperation_37 (by decide) ?_
    refine bq_istore (i := 6) dX6_addOperation_38 (by decide) ?_
    refine bq_lvs (lv' := [(0, .ref (bt_ad α 6 0)), (1, .int a), (2, .int b), (3, .int l), (4, .int f), (5, .int t), (6, .int _)]) ⟨rfl, rfl, rfl, rfl, rfl, rfl, rfl, trivial⟩ ?_
    exact n_addOv J hN
  · refine bq_iload (i := 4) dX6_addOperation_11 rfl ?_
    refine bq_iconst (v := (nI 0)) dX6_addOperation_13 (by decide) ?_
    refine bq_iconst (v := (nI 3)) dX6_addOperation_14 (by decide) ?_
    refine bq_callSr dX6_addOperation_15 ml_X6_81 (n_in) (by decide) (by decide) (Nat.le_of_ble_eq_true rfl) rfl ?_
    refine bq_if_eq (tgt := 37) dX6_addOperation_18 (by decide) (fun c_18 => ?_) (fun c_18 => ?_)
    · rw [show m_rng l f t = nI 0 from (if_neg c_8).trans (if_pos c_18)]
      refine bq_iconst (v := (nI 0)) dX6_addOperation_37 (by decide) ?_
      refine bq_istore (i := 6) dX6_addOperation_38 (by decide) ?_
      refine bq_lvs (lv' := [(0, .ref (bt_ad α 6 0)), (1, .int a), (2, .int b), (3, .int l), (4, .int f), (5, .int t), (6, .int _)]) ⟨rfl, rfl, rfl, rfl, rfl, rfl, rfl, trivial⟩ ?_
      exact n_addOv J hN
    · refine bq_iload (i := 5) dX6_addOperation_21 rfl ?_
      refine bq_iconst (v := (nI 0)) dX6_addOperation_23 (by decide) ?_
      refine bq_sipush (v := (nI 255)) dX6_addOperation_24 (by decide) ?_
      refine bq_callSr dX6_addOperation_27 ml_X6_81 (n_in) (by decide) (by decide) (Nat.le_of_ble_eq_true rfl) rfl ?_
      refine bq_if_eq (tgt := 37) dX6_addOperation_30 (by decide) (fun c_30 => ?_) (fun c_30 => ?_)
      · rw [show m_rng l f t = nI 0 from (if_neg c_8).trans ((if_neg c_18).trans (if_pos c_30))]
        refine bq_iconst (v := (nI 0)) dX6_addOperation_37 (by decide) ?_
        refine bq_istore (i := 6) dX6_addOperation_38 (by decide) ?_
        refine bq_lvs (lv' := [(0, .ref (bt_ad α 6 0)), (1, .int a), (2, .int b), (3, .int l), (4, .int f), (5, .int t), (6, .int _)]) ⟨rfl, rfl, rfl, rfl, rfl, rfl, rfl, trivial⟩ ?_
        exact n_addOv J hN
      · rw [show m_rng l f t = nI 1 from (if_neg c_8).trans ((if_neg c_18).trans (if_neg c_30))]
        refine bq_iconst (v := (nI 1)) dX6_addOperation_33 (by decide) ?_
        refine bq_goto (tgt := 38) dX6_addOperation_34 (by decide) ?_
        refine bq_istore (i := 6) dX6_addOperation_38 (by decide) ?_
        refine bq_lvs (lv' := [(0, .ref (bt_ad α 6 0)), (1, .int a), (2, .int b), (3, .int l), (4, .int f), (5, .int t), (6, .int _)]) ⟨rfl, rfl, rfl, rfl, rfl, rfl, rfl, trivial⟩ ?_
        exact n_addOv J hN
def m_set (σ x : bt_X) (f g t : Int32) : m_Rt := if m_in f (nI 0) (nI 3) = 0 then (nI 0, σ, m_thr x (nI 1)) else if m_in g (nI 0) (nI 3) = 0 then (nI 0, σ, m_thr x (nI 1)) else if m_in t (nI 0) (nI 60) = 0 then (nI 0, σ, m_thr x (nI 2)) else
  (m_su σ (nN f) (nN g), bt_gs σ 8 25 (4 * nN f + nN g) t, m_thr x (nI 0))
set_option maxRecDepth 100000 in
set_option maxHeartbeats 400000 in
theorem n_set {G : bp_X} {α : bt_A} {σ x : bt_X} {f g t : Int32} (J : m_J α)  : bq_S G mX6_setSetup 2 [.ref (bt_ad α 6 0), .int f, .int g, .int t] (bt α σ x) (bq_ret (some (.int (m_set σ x f g t).1)) (bt α (m_set σ x f g t).2.1 (m_set σ x f g t).2.2)) := by
  refine bq_ofW (by decide +kernel) rfl (Nat.le_of_ble_eq_true rfl) ?_
  by_cases h1 : m_in f (nI 0) (nI 3) = 0
  · rw [show m_set σ x f g t = (nI 0, σ, m_thr x (nI 1)) from if_pos h1]
    refine bq_aload_n (i := 0) dX6_setSetup_0 rfl ?_
    refine bq_iload_n (i := 1) dX6_setSetup_1 rfl ?_
    refine bq_callSr dX6_setSetup_2 ml_X6_130 (n_isFamily) (by decide) (by decide) (Nat.le_of_ble_eq_true rfl) rfl ?_
    refine bq_if_eq (tgt := 15) dX6_setSetup_5 (by decide) (fun c_5 => ?_) (fun z9_ => absurd h1 z9_)
    refine bq_iconst (v := (nI 1)) dX6_setSetup_15 (by decide) ?_
    refine bq_goto (tgt := 34) dX6_setSetup_16 (by decide) ?_
    refine bt_put0 dX6_setSetup_34 fl_X6_74 (by first | assumption | exact J.v3 | exact J.v4 | exact J.v5 | exact J.v6 | exact J.l0 | exact J.l1 | exact J.l2 | exact J.l3 | exact J.row (by assumption) | exact J.ops (by assumption) | exact J.job (by assumption)) rfl (by decide) (by first | rfl | decide) (by first | rfl | decide) ?_
    refine bq_aload_n (i := 0) dX6_setSetup_37 rfl ?_
    refine bt_get0 dX6_setSetup_38 fl_X6_74 (by first | assumption | exact J.v3 | exact J.v4 | exact J.v5 | exact J.v6 | exact J.l0 | exact J.l1 | exact J.l2 | exact J.l3 | exact J.row (by assumption) | exact J.ops (by assumption) | exact J.job (by assumption)) rfl (by decide) ?_
    rw [b_gs_at]
    refine bq_if_le (tgt := 46) dX6_setSetup_41 (by decide) (fun z9_ => absurd z9_ (show ¬ nI 1 ≤ 0 by decide)) (fun c_41 => ?_)
    refine bq_iconst (v := (nI 0)) dX6_setSetup_44 (by decide) ?_
    exact bq_iret dX6_setSetup_45 rfl (by first | rfl | decide) bq_ret_i
  · by_cases h2 : m_in g (nI 0) (nI 3) = 0
    · rw [show m_set σ x f g t = (nI 0, σ, m_thr x (nI 1)) from (if_neg h1).trans (if_pos h2)]
      refine bq_aload_n (i := 0) dX6_setSetup_0 rfl ?_
      refine bq_iload_n (i := 1) dX6_setSetup_1 rfl ?_
      refine bq_callSr dX6_setSetup_2 ml_X6_130 (n_isFamily) (by decide) (by decide) (Nat.le_of_ble_eq_true rfl) rfl ?_
      refine bq_if_eq (tgt := 15) dX6_setSetup_5 (by decide) (fun z9_ => absurd z9_ h1) (fun c_5 => ?_)
      refine bq_iload_n (i := 2) dX6_setSetup_8 rfl ?_
      refine bq_callSr dX6_setSetup_9 ml_X6_130 (n_isFamily) (by decide) (by decide) (Nat.le_of_ble_eq_true rfl) rfl ?_
      refine bq_if_ne (tgt := 19) dX6_setSetup_12 (by decide) (fun z9_ => absurd h2 z9_) (fun c_12 => ?_)
      refine bq_iconst (v := (nI 1)) dX6_setSetup_15 (by decide) ?_
      refine bq_goto (tgt := 34) dX6_setSetup_16 (by decide) ?_
      refine bt_put0 dX6_setSetup_34 fl_X6_74 (by first | assumption | exact J.v3 | exact J.v4 | exact J.v5 | exact J.v6 | exact J.l0 | exact J.l1 | exact J.l2 | exact J.l3 | exact J.row (by assumption) | exact J.ops (by assumption) | exact J.job (by assumption)) rfl (by decide) (by first | rfl | decide) (by first | rfl | decide) ?_
      refine bq_aload_n (i := 0) dX6_setSetup_37 rfl ?_
      refine bt_get0 dX6_setSetup_38 fl_X6_74 (by first | assumption | exact J.v3 | exact J.v4 | exact J.v5 | exact J.v6 | exact J.l0 | exact J.l1 | exact J.l2 | exact J.l3 | exact J.row (by assumption) | exact J.ops (by assumption) | exact J.job (by assumption)) rfl (by decide) ?_
      rw [b_gs_at]
      refine bq_if_le (tgt := 46) dX6_setSetup_41 (by decide) (fun z9_ => absurd z9_ (show ¬ nI 1 ≤ 0 by decide)) (fun c_41 => ?_)
      refine bq_iconst (v := (nI 0)) dX6_setSetup_44 (by decide) ?_
      exact bq_iret dX6_setSetup_45 rfl (by first | rfl | decide) bq_ret_i
    · by_cases h3 : m_in t (nI 0) (nI 60) = 0
      · rw [show m_set σ x f g t = (nI 0, σ, m_thr x (nI 2)) from (if_neg h1).trans ((if_neg h2).trans (if_pos h3))]
        refine bq_aload_n (i := 0) dX6_setSetup_0 rfl ?_
        refine bq_iload_n (i := 1) dX6_setSetup_1 rfl ?_
        refine bq_callSr dX6_setSetup_2 ml_X6_130 (n_isFamily) (by decide) (by decide) (Nat.le_of_ble_eq_true rfl) rfl ?_
        refine bq_if_eq (tgt := 15) dX6_setSetup_5 (by decide) (fun z9_ => absurd z9_ h1) (fun c_5 => ?_)
        refine bq_iload_n (i := 2) dX6_setSetup_8 rfl ?_
        refine bq_callSr dX6_setSetup_9 ml_X6_130 (n_isFamily) (by decide) (by decide) (Nat.le_of_ble_eq_true rfl) rfl ?_
        refine bq_if_ne (tgt := 19) dX6_setSetup_12 (by decide) (fun c_12 => ?_) (fun z9_ => absurd z9_ h2)
        refine bq_iload_n (i := 3) dX6_setSetup_19 rfl ?_
        refine bq_iconst (v := (nI 0)) dX6_setSetup_20 (by decide) ?_
        refine bq_bipush (v := (nI 60)) dX6_setSetup_21 (by decide) ?_
        refine bq_callSr dX6_setSetup_23 ml_X6_81 (n_in) (by decide) (by decide) (Nat.le_of_ble_eq_true rfl) rfl ?_
        refine bq_if_eq (tgt := 33) dX6_setSetup_26 (by decide) (fun c_26 => ?_) (fun z9_ => absurd h3 z9_)
        refine bq_iconst (v := (nI 2)) dX6_setSetup_33 (by decide) ?_
        refine bt_put0 dX6_setSetup_34 fl_X6_74 (by first | assumption | exact J.v3 | exact J.v4 | exact J.v5 | exact J.v6 | exact J.l0 | exact J.l1 | exact J.l2 | exact J.l3 | exact J.row (by assumption) | exact J.ops (by assumption) | exact J.job (by assumption)) rfl (by decide) (by first | rfl | decide) (by first | rfl | decide) ?_
        refine bq_aload_n (i := 0) dX6_setSetup_37 rfl ?_
        refine bt_get0 dX6_setSetup_38 fl_X6_74 (by first | assumption | exact J.v3 | exact J.v4 | exact J.v5 | exact J.v6 | exact J.l0 | exact J.l1 | exact J.l2 | exact J.l3 | exact J.row (by assumption) | exact J.ops (by assumption) | exact J.job (by assumption)) rfl (by decide) ?_
        rw [b_gs_at]
        refine bq_if_le (tgt := 46) dX6_setSetup_41 (by decide) (fun z9_ => absurd z9_ (show ¬ nI 2 ≤ 0 by decide)) (fun c_41 => ?_)
        refine bq_iconst (v := (nI 0)) dX6_setSetup_44 (by decide) ?_
        exact bq_iret dX6_setSetup_45 rfl (by first | rfl | decide) bq_ret_i
      · rw [show m_set σ x f g t = (m_su σ (nN f) (nN g), bt_gs σ 8 25 (4 * nN f + nN g) t, m_thr x (nI 0)) from (if_neg h1).trans ((if_neg h2).trans (if_neg h3))]
        obtain ⟨f1, f2⟩ := m_in_s (by decide) h1
        obtain ⟨g1, g2⟩ := m_in_s (by decide) h2
        generalize nN f = F at f1 f2 ⊢
        generalize nN g = H at g1 g2 ⊢
        subst f1
        subst g1
        refine bq_aload_n (i := 0) dX6_setSetup_0 rfl ?_
        refine bq_iload_n (i := 1) dX6_setSetup_1 rfl ?_
        refine bq_callSr dX6_setSetup_2 ml_X6_130 (n_isFamily) (by decide) (by decide) (Nat.le_of_ble_eq_true rfl) rfl ?_
        refine bq_if_eq (tgt := 15) dX6_setSetup_5 (by decide) (fun z9_ => absurd z9_ h1) (fun c_5 => ?_)
        refine bq_iload_n (i := 2) dX6_setSetup_8 rfl ?_
        refine bq_callSr dX6_setSetup_9 ml_X6_130 (n_isFamily) (by decide) (by decide) (Nat.le_of_ble_eq_true rfl) rfl ?_
        refine bq_if_ne (tgt := 19) dX6_setSetup_12 (by decide) (fun c_12 => ?_) (fun z9_ => absurd z9_ h2)
        refine bq_iload_n (i := 3) dX6_setSetup_19 rfl ?_
        refine bq_iconst (v := (nI 0)) dX6_setSetup_20 (by decide) ?_
        refine bq_bipush (v := (nI 60)) dX6_setSetup_21 (by decide) ?_
        refine bq_callSr dX6_setSetup_23 ml_X6_81 (n_in) (by decide) (by decide) (Nat.le_of_ble_eq_true rfl) rfl ?_
        refine bq_if_eq (tgt := 33) dX6_setSetup_26 (by decide) (fun z9_ => absurd z9_ h3) (fun c_26 => ?_)
        refine bq_iconst (v := (nI 0)) dX6_setSetup_29 (by decide) ?_
        refine bq_goto (tgt := 34) dX6_setSetup_30 (by decide) ?_
        refine bt_put0 dX6_setSetup_34 fl_X6_74 (by first | assumption | exact J.v3 | exact J.v4 | exact J.v5 | exact J.v6 | exact J.l0 | exact J.l1 | exact J.l2 | exact J.l3 | exact J.row (by assumption) | exact J.ops (by assumption) | exact J.job (by assumption)) rfl (by decide) (by first | rfl | decide) (by first | rfl | decide) ?_
        refine bq_aload_n (i := 0) dX6_setSetup_37 rfl ?_
        refine bt_get0 dX6_setSetup_38 fl_X6_74 (by first | assumption | exact J.v3 | exact J.v4 | exact J.v5 | exact J.v6 | exact J.l0 | exact J.l1 | exact J.l2 | exact J.l3 | exact J.row (by assumption) | exact J.ops (by assumption) | exact J.job (by assumption)) rfl (by decide) ?_
        rw [b_gs_at]
        refine bq_if_le (tgt := 46) dX6_setSetup_41 (by decide) (fun c_41 => ?_) (fun z9_ => absurd (show nI 0 ≤ 0 by decide) z9_)
        refine bq_aload_n (i := 0) dX6_setSetup_46 rfl ?_
        refine bq_iload_n (i := 1) dX6_setSetup_47 rfl ?_
        refine bq_iload_n (i := 2) dX6_setSetup_48 rfl ?_
        refine bt_callVr (c := 6) (i := 0) dX6_setSetup_49 rfl ml_X6_96 (by first | assumption | exact J.v3 | exact J.v4 | exact J.v5 | exact J.v6 | exact J.l0 | exact J.l1 | exact J.l2 | exact J.l3 | exact J.row (by assumption) | exact J.ops (by assumption) | exact J.job (by assumption)) (by decide) (n_setup J (by omega) (by omega)) (by decide) (by decide) (Nat.le_of_ble_eq_true rfl) rfl ?_
        refine bq_istore (i := 4) dX6_setSetup_52 (by decide) ?_
        refine bq_aload_n (i := 0) dX6_setSetup_54 rfl ?_
        refine bt_get3 (c' := 8) (n := 25) dX6_setSetup_55 fl_X6_47 (by first | assumption | exact J.v3 | exact J.v4 | exact J.v5 | exact J.v6 | exact J.l0 | exact J.l1 | exact J.l2 | exact J.l3 | exact J.row (by assumption) | exact J.ops (by assumption) | exact J.job (by assumption)) ⟨rfl, rfl, rfl⟩ (by decide) ?_
        refine bq_iconst (v := (nI 4)) dX6_setSetup_58 (by decide) ?_
        refine bq_iload_n (i := 1) dX6_setSetup_59 rfl ?_
        refine bq_imul dX6_setSetup_60 ?_
        refine bq_iload_n (i := 2) dX6_setSetup_61 rfl ?_
        refine bq_iadd dX6_setSetup_62 ?_
        refine bq_iload_n (i := 3) dX6_setSetup_63 rfl ?_
        refine bt_iast4 (n := 25) (j := (4 * F + H)) dX6_setSetup_64 J.a25 (by rw [pk_mul, nI_add]) (by omega) (by decide) rfl ?_
        refine bq_iload (i := 4) dX6_setSetup_65 rfl ?_
        exact bq_iret dX6_setSetup_67 rfl (by first | rfl | decide) bq_ret_i
