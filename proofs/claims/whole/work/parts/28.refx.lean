/-! ===== the reference: taking off, exchanging, what is asked ===== -/
def m_tks (σ : bt_X) (j : Nat) : Nat → Nat → bt_X → bt_X
  | 0, _, x => x
  | n + 1, k, x => m_tks σ j n (k + 1) (m_takes σ x (4 * j + k))
def m_tok (σ : bt_X) (j : Nat) : Nat → Nat → bt_X → Prop
  | 0, _, _ => True
  | n + 1, k, x => m_has σ x (4 * j + k) ∧ m_tok σ j n (k + 1) (m_takes σ x (4 * j + k))
noncomputable def m_remv (σ x : bt_X) (a : Int32) : m_Rt := match b_ix (m_nj σ) a with
  | none => (nI 0, σ, m_thr x (nI 1))
  | some j => if σ.1 8 20 j = 0 then (nI 0, σ, m_thr x (nI 2)) else m_mvd σ j (nI 0) (m_tks σ j (m_np σ j) 0 (m_thr x (nI 0)))
set_option maxRecDepth 100000 in
set_option maxHeartbeats 400000 in
theorem n_tks {G : bp_X} {α : bt_A} {σ : bt_X} (J : m_J α) (hN : m_Nn σ) (hK : m_K σ) {Φ : bp_O → bq_O → Prop} {j : Nat} (hj : j < 8) : ∀ (n k : Nat) (x : bt_X), n + k = m_np σ j → m_Rw x → m_tok σ j n k x → (m_Rw (m_tks σ j n k x) → bq_W G mX6_remove 5 66 [(0, .ref (bt_ad α 6 0)), (1, .int (nI j))] [] (bt α σ (m_tks σ j n k x)) Φ) → bq_W G mX6_remove 5 41 [(0, .ref (bt_ad α 6 0)), (1, .int (nI j)), (2, .int (nI k))] [] (bt α σ x) Φ := by
  obtain ⟨g1, g2⟩ := m_np_e hN hj
  intro n
  induction n with
  | zero =>
    intro k x hk hR ho kk
    unfold m_tks at kk
    refine bq_iload_n (i := 2) dX6_remove_41 rfl ?_
    refine bq_aload_n (i := 0) dX6_remove_42 rfl ?_
    refine bt_get3 (c' := 8) (n := 19) dX6_remove_43 fl_X6_28 (by first | assumption | exact J.v3 | exact J.v4 | exact J.v5 | exact J.v6 | exact J.l0 | exact J.l1 | exact J.l2 | exact J.l3 | exact J.row (by assumption) | exact J.ops (by assumption) | exact J.job (by assumption)) ⟨rfl, rfl, rfl⟩ (by decide) ?_
    refine bq_iload_n (i := 1) dX6_remove_46 rfl ?_
    refine bt_iald4 (n := 19) (j := j) dX6_remove_47 J.a19 rfl (by omega) (by decide) rfl ?_
    rw [g1]
    refine bq_icmp_ge (tgt := 66) dX6_remove_48 (by decide) (fun c_48 => ?_) (fun z9_ => absurd (show nI (m_np σ j) ≤ nI k from nI_le (by omega) (by omega)) z9_)
    refine bq_lvs (lv' := [(0, .ref (bt_ad α 6 0)), (1, .int (nI j))]) ⟨rfl, rfl, trivial⟩ ?_
    exact kk hR
  | succ n ih =>
    intro k x hk hR ho kk
    obtain ⟨c1, c2⟩ := m_mc_e hK (show 4 * j + k < 32 by omega)
    unfold m_tok at ho
    unfold m_tks at kk
    refine bq_iload_n (i := 2) dX6_remove_41 rfl ?_
    refine bq_aload_n (i := 0) dX6_remove_42 rfl ?_
    refine bt_get3 (c' := 8) (n := 19) dX6_remove_43 fl_X6_28 (by first | assumption | exact J.v3 | exact J.v4 | exact J.v5 | exact J.v6 | exact J.l0 | exact J.l1 | exact J.l2 | exact J.l3 | exact J.row (by assumption) | exact J.ops (by assumption) | exact J.job (by assumption)) ⟨rfl, rfl, rfl⟩ (by decide) ?_
    refine bq_iload_n (i := 1) dX6_remove_46 rfl ?_
    refine bt_iald4 (n := 19) (j := j) dX6_remove_47 J.a19 rfl (by omega) (by decide) rfl ?_
    rw [g1]
    refine bq_icmp_ge (tgt := 66) dX6_remove_48 (by decide) (fun z9_ => absurd z9_ (show ¬ nI (m_np σ j) ≤ nI k from nI_ge (by omega) (by omega))) (fun c_48 => ?_)
    refine bq_aload_n (i := 0) dX6_remove_51 rfl ?_
    refine bq_iconst (v := (nI 4)) dX6_remove_52 (by decide) ?_
    refine bq_iload_n (i := 1) dX6_remove_53 rfl ?_
    refine bq_imul dX6_remove_54 ?_
    refine bq_iload_n (i := 2) dX6_remove_55 rfl ?_
    refine bq_iadd dX6_remove_56 ?_
    rw [pk_mul, nI_add]
    refine bt_callVr (c := 6) (i := 0) dX6_remove_57 rfl ml_X6_140 (by first | assumption | exact J.v3 | exact J.v4 | exact J.v5 | exact J.v6 | exact J.l0 | exact J.l1 | exact J.l2 | exact J.l3 | exact J.row (by assumption) | exact J.ops (by assumption) | exact J.job (by assumption)) (by decide) (n_takes J hK hR (by omega) ho.1) (by decide) (by decide) (Nat.le_of_ble_eq_true rfl) rfl ?_
    refine bq_iinc dX6_remove_60 rfl (by decide) (by first | exact bp_inc _ | rfl) ?_
    refine bq_goto (tgt := 41) dX6_remove_63 (by decide) ?_
    refine bq_lvs (lv' := [(0, .ref (bt_ad α 6 0)), (1, .int (nI j)), (2, .int (nI (k + 1)))]) ⟨rfl, rfl, rfl, trivial⟩ ?_
    exact ih (k + 1) _ (by omega) (hR.takes c2 ho.1) ho.2 kk
set_option maxRecDepth 100000 in
set_option maxHeartbeats 400000 in
theorem n_remv {G : bp_X} {α : bt_A} {σ x : bt_X} {a : Int32} (J : m_J α) (hN : m_Nn σ) (hK : m_K σ) (hR : m_Rw x) (hok : ∀ j, b_ix (m_nj σ) a = some j → ¬ σ.1 8 20 j = 0 → m_tok σ j (m_np σ j) 0 (m_thr x (nI 0))) : bq_S G mX6_remove 5 [.ref (bt_ad α 6 0), .int a] (bt α σ x) (bq_ret (some (.int (m_remv σ x a).1)) (bt α (m_remv σ x a).2.1 (m_remv σ x a).2.2)) := by
  refine bq_ofW (by decide +kernel) rfl (Nat.le_of_ble_eq_true rfl) ?_
  cases e1 : b_ix (m_nj σ) a with
  | none =>
    rw [show m_remv σ x a = (nI 0, σ, m_thr x (nI 1)) by unfold m_remv; rw [e1]]
    refine bq_aload_n (i := 0) dX6_remove_0 rfl ?_
    refine bq_aload_n (i := 0) dX6_remove_1 rfl ?_
    refine bq_iload_n (i := 1) dX6_remove_2 rfl ?_
    refine bt_callVr (c := 6) (i := 0) dX6_remove_3 rfl ml_X6_127 (by first | assumption | exact J.v3 | exact J.v4 | exact J.v5 | exact J.v6 | exact J.l0 | exact J.l1 | exact J.l2 | exact J.l3 | exact J.row (by assumption) | exact J.ops (by assumption) | exact J.job (by assumption)) (by decide) (n_isJob J hN) (by decide) (by decide) (Nat.le_of_ble_eq_true rfl) rfl ?_
    rw [e1]
    refine bq_if_ne (tgt := 13) dX6_remove_6 (by decide) (fun z9_ => absurd (show m_q none = 0 from rfl) z9_) (fun c_6 => ?_)
    refine bq_iconst (v := (nI 1)) dX6_remove_9 (by decide) ?_
    refine bq_goto (tgt := 27) dX6_remove_10 (by decide) ?_
    refine bt_put0 dX6_remove_27 fl_X6_74 (by first | assumption | exact J.v3 | exact J.v4 | exact J.v5 | exact J.v6 | exact J.l0 | exact J.l1 | exact J.l2 | exact J.l3 | exact J.row (by assumption) | exact J.ops (by assumption) | exact J.job (by assumption)) rfl (by decide) (by first | rfl | decide) (by first | rfl | decide) ?_
    refine bq_aload_n (i := 0) dX6_remove_30 rfl ?_
    refine bt_get0 dX6_remove_31 fl_X6_74 (by first | assumption | exact J.v3 | exact J.v4 | exact J.v5 | exact J.v6 | exact J.l0 | exact J.l1 | exact J.l2 | exact J.l3 | exact J.row (by assumption) | exact J.ops (by assumption) | exact J.job (by assumption)) rfl (by decide) ?_
    rw [b_gs_at]
    refine bq_if_le (tgt := 39) dX6_remove_34 (by decide) (fun z9_ => absurd z9_ (show ¬ nI 1 ≤ 0 by decide)) (fun c_34 => ?_)
    refine bq_iconst (v := (nI 0)) dX6_remove_37 (by decide) ?_
    exact bq_iret dX6_remove_38 rfl (by first | rfl | decide) bq_ret_i
  | some j =>
    have hb0 : m_nj σ < 9 := by have := hN.2.1.l; exact Nat.lt_of_lt_of_le this (by decide)
    obtain ⟨ea, hmn⟩ := m_ix_e (by omega) e1
    have hj8 := m_nj8 hN hmn
    subst ea
    by_cases h1 : σ.1 8 20 j = 0
    · rw [show m_remv σ x (nI j) = (nI 0, σ, m_thr x (nI 2)) by unfold m_remv; rw [e1]; exact if_pos h1]
      refine bq_aload_n (i := 0) dX6_remove_0 rfl ?_
      refine bq_aload_n (i := 0) dX6_remove_1 rfl ?_
      refine bq_iload_n (i := 1) dX6_remove_2 rfl ?_
      refine bt_callVr (c := 6) (i := 0) dX6_remove_3 rfl ml_X6_127 (by first | assumption | exact J.v3 | exact J.v4 | exact J.v5 | exact J.v6 | exact J.l0 | exact J.l1 | exact J.l2 | exact J.l3 | exact J.row (by assumption) | exact J.ops (by assumption) | exact J.job (by assumption)) (by decide) (n_isJob J hN) (by decide) (by decide) (Nat.le_of_ble_eq_true rfl) rfl ?_
      rw [e1]
      refine bq_if_ne (tgt := 13) dX6_remove_6 (by decide) (fun c_6 => ?_) (fun z9_ => absurd z9_ (show ¬ m_q (some j) = 0 by show ¬ nI 1 = 0; decide))
      refine bq_aload_n (i := 0) dX6_remove_13 rfl ?_
      refine bt_get3 (c' := 8) (n := 20) dX6_remove_14 fl_X6_31 (by first | assumption | exact J.v3 | exact J.v4 | exact J.v5 | exact J.v6 | exact J.l0 | exact J.l1 | exact J.l2 | exact J.l3 | exact J.row (by assumption) | exact J.ops (by assumption) | exact J.job (by assumption)) ⟨rfl, rfl, rfl⟩ (by decide) ?_
      refine bq_iload_n (i := 1) dX6_remove_17 rfl ?_
      refine bt_zald4 (n := 20) (j := j) dX6_remove_18 J.a20 rfl (by omega) (by decide) rfl ?_
      refine bq_if_eq (tgt := 26) dX6_remove_19 (by decide) (fun c_19 => ?_) (fun z9_ => absurd h1 z9_)
      refine bq_iconst (v := (nI 2)) dX6_remove_26 (by decide) ?_
      refine bt_put0 dX6_remove_27 fl_X6_74 (by first | assumption | exact J.v3 | exact J.v4 | exact J.v5 | exact J.v6 | exact J.l0 | exact J.l1 | exact J.l2 | exact J.l3 | exact J.row (by assumption) | exact J.ops (by assumption) | exact J.job (by assumption)) rfl (by decide) (by first | rfl | decide) (by first | rfl | decide) ?_
      refine bq_aload_n (i := 0) dX6_remove_30 rfl ?_
      refine bt_get0 dX6_remove_31 fl_X6_74 (by first | assumption | exact J.v3 | exact J.v4 | exact J.v5 | exact J.v6 | exact J.l0 | exact J.l1 | exact J.l2 | exact J.l3 | exact J.row (by assumption) | exact J.ops (by assumption) | exact J.job (by assumption)) rfl (by decide) ?_
      rw [b_gs_at]
      refine bq_if_le (tgt := 39) dX6_remove_34 (by decide) (fun z9_ => absurd z9_ (show ¬ nI 2 ≤ 0 by decide)) (fun c_34 => ?_)
      refine bq_iconst (v := (nI 0)) dX6_remove_37 (by decide) ?_
      exact bq_iret dX6_remove_38 rfl (by first | rfl | decide) bq_ret_i
    · rw [show m_remv σ x (nI j) = m_mvd σ j (nI 0) (m_tks σ j (m_np σ j) 0 (m_thr x (nI 0))) by unfold m_remv; rw [e1]; exact if_neg h1]
      refine bq_aload_n (i := 0) dX6_remove_0 rfl ?_
      refine bq_aload_n (i := 0) dX6_remove_1 rfl ?_
      refine bq_iload_n (i := 1) dX6_remove_2 rfl ?_
      refine bt_callVr (c := 6) (i := 0) dX6_remove_3 rfl ml_X6_127 (by first | assumption | exact J.v3 | exact J.v4 | exact J.v5 | exact J.v6 | exact J.l0 | exact J.l1 | exact J.l2 | exact J.l3 | exact J.row (by assumption) | exact J.ops (by assumption) | exact J.job (by assumption)) (by decide) (n_isJob J hN) (by decide) (by decide) (Nat.le_of_ble_eq_true rfl) rfl ?_
      rw [e1]
      refine bq_if_ne (tgt := 13) dX6_remove_6 (by decide) (fun c_6 => ?_) (fun z9_ => absurd z9_ (show ¬ m_q (some j) = 0 by show ¬ nI 1 = 0; decide))
      refine bq_aload_n (i := 0) dX6_remove_13 rfl ?_
      refine bt_get3 (c' := 8) (n := 20) dX6_remove_14 fl_X6_31 (by first | assumption | exact J.v3 | exact J.v4 | exact J.v5 | exact J.v6 | exact J.l0 | exact J.l1 | exact J.l2 | exact J.l3 | exact J.row (by assumption) | exact J.ops (by assumption) | exact J.job (by assumption)) ⟨rfl, rfl, rfl⟩ (by decide) ?_
      refine bq_iload_n (i := 1) dX6_remove_17 rfl ?_
      refine bt_zald4 (n := 20) (j := j) dX6_remove_18 J.a20 rfl (by omega) (by decide) rfl ?_
      refine bq_if_eq (tgt := 26) dX6_remove_19 (by decide) (fun z9_ => absurd z9_ h1) (fun c_19 => ?_)
      refine bq_iconst (v := (nI 0)) dX6_remove_22 (by decide) ?_
      refine bq_goto (tgt := 27) dX6_remove_23 (by decide) ?_
      refine bt_put0 dX6_remove_27 fl_X6_74 (by first | assumption | exact J.v3 | exact J.v4 | exact J.v5 | exact J.v6 | exact J.l0 | exact J.l1 | exact J.l2 | exact J.l3 | exact J.row (by assumption) | exact J.ops (by assumption) | exact J.job (by assumption)) rfl (by decide) (by first | rfl | decide) (by first | rfl | decide) ?_
      refine bq_aload_n (i := 0) dX6_remove_30 rfl ?_
      refine bt_get0 dX6_remove_31 fl_X6_74 (by first | assumption | exact J.v3 | exact J.v4 | exact J.v5 | exact J.v6 | exact J.l0 | exact J.l1 | exact J.l2 | exact J.l3 | exact J.row (by assumption) | exact J.ops (by assumption) | exact J.job (by assumption)) rfl (by decide) ?_
      rw [b_gs_at]
      refine bq_if_le (tgt := 39) dX6_remove_34 (by decide) (fun c_34 => ?_) (fun z9_ => absurd (show nI 0 ≤ 0 by decide) z9_)
      refine bq_iconst (v := (nI 0)) dX6_remove_39 (by decide) ?_
      refine bq_istore_n (i := 2) dX6_remove_40 (by decide) ?_
      refine bq_lvs (lv' := [(0, .ref (bt_ad α 6 0)), (1, .int (nI j)), (2, .int (nI 0))]) ⟨rfl, rfl, rfl, trivial⟩ ?_
      refine n_tks J hN hK hj8 (m_np σ j) 0 _ rfl hR.thr (hok j e1 h1) (fun hR2 => ?_)
      refine bq_aload_n (i := 0) dX6_remove_66 rfl ?_
      refine bt_get3 (c' := 8) (n := 20) dX6_remove_67 fl_X6_31 (by first | assumption | exact J.v3 | exact J.v4 | exact J.v5 | exact J.v6 | exact J.l0 | exact J.l1 | exact J.l2 | exact J.l3 | exact J.row (by assumption) | exact J.ops (by assumption) | exact J.job (by assumption)) ⟨rfl, rfl, rfl⟩ (by decide) ?_
      refine bq_iload_n (i := 1) dX6_remove_70 rfl ?_
      refine bq_iconst (v := (nI 0)) dX6_remove_71 (by decide) ?_
      refine bt_zast4 (n := 20) (j := j) dX6_remove_72 J.a20 rfl (by omega) (by decide) rfl (by first | rfl | decide) ?_
      refine bq_aload_n (i := 0) dX6_remove_73 rfl ?_
      refine bt_callVr (c := 6) (i := 0) dX6_remove_74 rfl ml_X6_113 (by first | assumption | exact J.v3 | exact J.v4 | exact J.v5 | exact J.v6 | exact J.l0 | exact J.l1 | exact J.l2 | exact J.l3 | exact J.row (by assumption) | exact J.ops (by assumption) | exact J.job (by assumption)) (by decide) (n_spanOf J (hN.gs (by omega)) (hK.gs (by omega)) hR2) (by decide) (by decide) (Nat.le_of_ble_eq_true rfl) rfl ?_
      exact bq_iret dX6_remove_77 rfl (by first | rfl | decide) bq_ret_i
def m_xc (x : bt_X) (m k : Nat) : bt_X := bt_gs (bt_gs x 8 16 (32 * m + k) (x.1 8 16 (32 * m + k + 1))) 8 16 (32 * m + k + 1) (x.1 8 16 (32 * m + k))
theorem m_Rw.xc {x : bt_X} (h : m_Rw x) {m k : Nat} (hm : m < 4) (hk : k + 1 < m_rn x m) : m_Rw (m_xc x m k) := by
  intro m' hm'
  have e15 : (m_xc x m k).1 8 15 m' = x.1 8 15 m' := by unfold m_xc; rw [b_gs_ne (by omega), b_gs_ne (by omega)]
  obtain ⟨h1, h2⟩ := h m' hm'
  rw [e15]
  refine ⟨h1, fun i hi => ?_⟩
  unfold m_xc
  have hl := h1.l
  have hl2 : m_rn x m < 33 := (h m hm).1.l
  by_cases e : 32 * m' + i = 32 * m + k + 1
  · rw [e, b_gs_at]
    exact (h m hm).2 k (show k < m_rn x m by omega)
  · rw [b_gs_ne (by omega)]
    by_cases e2 : 32 * m' + i = 32 * m + k
    · rw [e2, b_gs_at]
      exact (h m hm).2 (k + 1) hk
    · rw [b_gs_ne (by omega)]
      exact h2 i hi
theorem m_in_2 {p : Int32} {r : Nat} (hr : r < 2 ^ 30) (h : ¬ m_in p (nI 0) (nI r - nI 2) = 0) : p = nI (nN p) ∧ nN p + 1 < r := by
  unfold m_in at h
  by_cases c : p < nI 0
  · rw [if_pos c] at h; exact absurd rfl h
  · rw [if_neg c] at h
    by_cases d : nI r - nI 2 < p
    · rw [if_pos d] at h; exact absurd rfl h
    · obtain ⟨j, hj, rfl⟩ := nI_of c
      have e : nN (nI j) = j := nI_clamp hj
      rw [e]
      refine ⟨rfl, ?_⟩
      rw [Int32.lt_iff_toInt_lt, pk_sub_toInt hr (by decide), nI_toInt hj] at d
      omega
noncomputable def m_swap (σ x : bt_X) (a p : Int32) : m_Rt := match b_ix (m_nm σ) a with
  | none => (nI 0, σ, m_thr x (nI 1))
  | some m => if m_in p (nI 0) (x.1 8 15 m - nI 2) = 0 then (nI 0, σ, m_thr x (nI 1)) else
      if m_wOk σ (m_xc (m_thr x (nI 0)) m (nN p)) = 0 then (nI 0, σ, m_thr (m_xc (m_wS σ (m_xc (m_thr x (nI 0)) m (nN p))) m (nN p)) (nI 2))
      else (m_span σ (m_wS σ (m_xc (m_thr x (nI 0)) m (nN p))), σ, m_wS σ (m_xc (m_thr x (nI 0)) m (nN p)))
set_option maxRecDepth 100000 in
set_option maxHeartbeats 400000 in
theorem n_xc {G : bp_X} {α : bt_A} {σ x : bt_X} {m i : Nat} (J : m_J α) (hm : m < 4) (hi : i + 1 < 32) : bq_S G mX6_exchanges 0 [.ref (bt_ad α 6 0), .int (nI m), .int (nI i)] (bt α σ x) (bq_ret none (bt α σ (m_xc x m i))) := by
  refine bq_ofW (by decide +kernel) rfl (Nat.le_of_ble_eq_true rfl) ?_
  refine bq_bipush (v := (nI 32)) dX6_exchanges_0 (by decide) ?_
  refine bq_iload_n (i := 1) dX6_exchanges_2 rfl ?_
  refine bq_imul dX6_exchanges_3 ?_
  refine bq_iload_n (i := 2) dX6_exchanges_4 rfl ?_
  refine bq_iadd dX6_exchanges_5 ?_
  rw [pk_mul, nI_add]
  refine bq_istore_n (i := 3) dX6_exchanges_6 (by decide) ?_
  refine bq_aload_n (i := 0) dX6_exchanges_7 rfl ?_
  refine bt_get3 (c' := 8) (n := 16) dX6_exchanges_8 fl_X6_22 (by first | assumption | exact J.v3 | exact J.v4 | exact J.v5 | exact J.v6 | exact J.l0 | exact J.l1 | exact J.l2 | exact J.l3 | exact J.row (by assumption) | exact J.ops (by assumption) | exact J.job (by assumption)) ⟨rfl, rfl, rfl⟩ (by decide) ?_
  refine bq_iload_n (i := 3) dX6_exchanges_11 rfl ?_
  refine bt_iald0 (n := 16) (j := (32 * m + i)) dX6_exchanges_12 J.a16 rfl (by omega) (by decide) rfl ?_
  refine bq_istore (i := 4) dX6_exchanges_13 (by decide) ?_
  refine bq_aload_n (i := 0) dX6_exchanges_15 rfl ?_
  refine bt_get3 (c' := 8) (n := 16) dX6_exchanges_16 fl_X6_22 (by first | assumption | exact J.v3 | exact J.v4 | exact J.v5 | exact J.v6 | exact J.l0 | exact J.l1 | exact J.l2 | exact J.l3 | exact J.row (by assumption) | exact J.ops (by assumption) | exact J.job (by assumption)) ⟨rfl, rfl, rfl⟩ (by decide) ?_
  refine bq_iload_n (i := 3) dX6_exchanges_19 rfl ?_
  refine bq_aload_n (i := 0) dX6_exchanges_20 rfl ?_
  refine bt_get3 (c' := 8) (n := 16) dX6_exchanges_21 fl_X6_22 (by first | assumption | exact J.v3 | exact J.v4 | exact J.v5 | exact J.v6 | exact J.l0 | exact J.l1 | exact J.l2 | exact J.l3 | exact J.row (by assumption) | exact J.ops (by assumption) | exact J.job (by assumption)) ⟨rfl, rfl, rfl⟩ (by decide) ?_
  refine bq_iload_n (i := 3) dX6_exchanges_24 rfl ?_
  refine bq_iconst (v := (nI 1)) dX6_exchanges_25 (by decide) ?_
  refine bq_iadd dX6_exchanges_26 ?_
  refine bt_iald0 (n := 16) (j := (32 * m + i + 1)) dX6_exchanges_27 J.a16 (nI_add _ 1) (by omega) (by decide) rfl ?_
  refine bt_iast0 (n := 16) (j := (32 * m + i)) dX6_exchanges_28 J.a16 rfl (by omega) (by decide) rfl ?_
  refine bq_aload_n (i := 0) dX6_exchanges_29 rfl ?_
  refine bt_get3 (c' := 8) (n := 16) dX6_exchanges_30 fl_X6_22 (by first | assumption | exact J.v3 | exact J.v4 | exact J.v5 | exact J.v6 | exact J.l0 | exact J.l1 | exact J.l2 | exact J.l3 | exact J.row (by assumption) | exact J.ops (by assumption) | exact J.job (by assumption)) ⟨rfl, rfl, rfl⟩ (by decide) ?_
  refine bq_iload_n (i := 3) dX6_exchanges_33 rfl ?_
  refine bq_iconst (v := (nI 1)) dX6_exchanges_34 (by decide) ?_
  refine bq_iadd dX6_exchanges_35 ?_
  refine bq_iload (i := 4) dX6_exchanges_36 rfl ?_
  refine bt_iast0 (n := 16) (j := (32 * m + i + 1)) dX6_exchanges_38 J.a16 (nI_add _ 1) (by omega) (by decide) rfl ?_
  exact bq_vret dX6_exchanges_39 rfl bq_ret_i
set_option maxRecDepth 100000 in
set_option maxHeartbeats 400000 in
theorem n_swap {G : bp_X} {α : bt_A} {σ x : bt_X} {a p : Int32} (J : m_J α) (hN : m_Nn σ) (hK : m_K σ) (hR : m_Rw x) : bq_S G mX6_swap 4 [.ref (bt_ad α 6 0), .int a, .int p] (bt α σ x) (bq_ret (some (.int (m_swap σ x a p).1)) (bt α (m_swap σ x a p).2.1 (m_swap σ x a p).2.2)) := by
  refine bq_ofW (by decide +kernel) rfl (Nat.le_of_ble_eq_true rfl) ?_
  cases e1 : b_ix (m_nm σ) a with
  | none =>
    rw [show m_swap σ x a p = (nI 0, σ, m_thr x (nI 1)) by unfold m_swap; rw [e1]]
    refine bq_aload_n (i := 0) dX6_swap_0 rfl ?_
    refine bq_aload_n (i := 0) dX6_swap_1 rfl ?_
    refine bq_iload_n (i := 1) dX6_swap_2 rfl ?_
    refine bt_callVr (c := 6) (i := 0) dX6_swap_3 rfl ml_X6_120 (by first | assumption | exact J.v3 | exact J.v4 | exact J.v5 | exact J.v6 | exact J.l0 | exact J.l1 | exact J.l2 | exact J.l3 | exact J.row (by assumption) | exact J.ops (by assumption) | exact J.job (by assumption)) (by decide) (n_isMachine J hN) (by decide) (by decide) (Nat.le_of_ble_eq_true rfl) rfl ?_
    rw [e1]
    refine bq_if_eq (tgt := 29) dX6_swap_6 (by decide) (fun c_6 => ?_) (fun z9_ => absurd (show m_q none = 0 from rfl) z9_)
    refine bq_iconst (v := (nI 1)) dX6_swap_29 (by decide) ?_
    refine bt_put0 dX6_swap_30 fl_X6_74 (by first | assumption | exact J.v3 | exact J.v4 | exact J.v5 | exact J.v6 | exact J.l0 | exact J.l1 | exact J.l2 | exact J.l3 | exact J.row (by assumption) | exact J.ops (by assumption) | exact J.job (by assumption)) rfl (by decide) (by first | rfl | decide) (by first | rfl | decide) ?_
    refine bq_aload_n (i := 0) dX6_swap_33 rfl ?_
    refine bt_get0 dX6_swap_34 fl_X6_74 (by first | assumption | exact J.v3 | exact J.v4 | exact J.v5 | exact J.v6 | exact J.l0 | exact J.l1 | exact J.l2 | exact J.l3 | exact J.row (by assumption) | exact J.ops (by assumption) | exact J.job (by assumption)) rfl (by decide) ?_
    rw [b_gs_at]
    refine bq_if_le (tgt := 42) dX6_swap_37 (by decide) (fun z9_ => absurd z9_ (show ¬ nI 1 ≤ 0 by decide)) (fun c_37 => ?_)
    refine bq_iconst (v := (nI 0)) dX6_swap_40 (by decide) ?_
    exact bq_iret dX6_swap_41 rfl (by first | rfl | decide) bq_ret_i
  | some m =>
    have hb0 : m_nm σ < 9 := by have := hN.1.l; exact Nat.lt_of_lt_of_le this (by decide)
    obtain ⟨ea, hmn⟩ := m_ix_e (by omega) e1
    have hm4 := m_nm4 hN hmn
    subst ea
    obtain ⟨r1, r2⟩ := m_rn_e hR hm4
    by_cases h1 : m_in p (nI 0) (x.1 8 15 m - nI 2) = 0
    · rw [show m_swap σ x (nI m) p = (nI 0, σ, m_thr x (nI 1)) by unfold m_swap; rw [e1]; exact if_pos h1]
      refine bq_aload_n (i := 0) dX6_swap_0 rfl ?_
      refine bq_aload_n (i := 0) dX6_swap_1 rfl ?_
      refine bq_iload_n (i := 1) dX6_swap_2 rfl ?_
      refine bt_callVr (c := 6) (i := 0) dX6_swap_3 rfl ml_X6_120 (by first | assumption | exact J.v3 | exact J.v4 | exact J.v5 | exact J.v6 | exact J.l0 | exact J.l1 | exact J.l2 | exact J.l3 | exact J.row (by assumption) | exact J.ops (by assumption) | exact J.job (by assumption)) (by decide) (n_isMachine J hN) (by decide) (by decide) (Nat.le_of_ble_eq_true rfl) rfl ?_
      rw [e1]
      refine bq_if_eq (tgt := 29) dX6_swap_6 (by decide) (fun z9_ => absurd z9_ (show ¬ m_q (some m) = 0 by show ¬ nI 1 = 0; decide)) (fun c_6 => ?_)
      refine bq_iload_n (i := 2) dX6_swap_9 rfl ?_
      refine bq_iconst (v := (nI 0)) dX6_swap_10 (by decide) ?_
      refine bq_aload_n (i := 0) dX6_swap_11 rfl ?_
      refine bt_get3 (c' := 8) (n := 15) dX6_swap_12 fl_X6_19 (by first | assumption | exact J.v3 | exact J.v4 | exact J.v5 | exact J.v6 | exact J.l0 | exact J.l1 | exact J.l2 | exact J.l3 | exact J.row (by assumption) | exact J.ops (by assumption) | exact J.job (by assumption)) ⟨rfl, rfl, rfl⟩ (by decide) ?_
      refine bq_iload_n (i := 1) dX6_swap_15 rfl ?_
      refine bt_iald0 (n := 15) (j := m) dX6_swap_16 J.a15 rfl (by omega) (by decide) rfl ?_
      refine bq_iconst (v := (nI 2)) dX6_swap_17 (by decide) ?_
      refine bq_isub dX6_swap_18 ?_
      refine bq_callSr dX6_swap_19 ml_X6_81 (n_in) (by decide) (by decide) (Nat.le_of_ble_eq_true rfl) rfl ?_
      refine bq_if_eq (tgt := 29) dX6_swap_22 (by decide) (fun c_22 => ?_) (fun z9_ => absurd h1 z9_)
      refine bq_iconst (v := (nI 1)) dX6_swap_29 (by decide) ?_
      refine bt_put0 dX6_swap_30 fl_X6_74 (by first | assumption | exact J.v3 | exact J.v4 | exact J.v5 | exact J.v6 | exact J.l0 | exact J.l1 | exact J.l2 | exact J.l3 | exact J.row (by assumption) | exact J.ops (by assumption) | exact J.job (by assumption)) rfl (by decide) (by first | rfl | decide) (by first | rfl | decide) ?_
      refine bq_aload_n (i := 0) dX6_swap_33 rfl ?_
      refine bt_get0 dX6_swap_34 fl_X6_74 (by first | assumption | exact J.v3 | exact J.v4 | exact J.v5 | exact J.v6 | exact J.l0 | exact J.l1 | exact J.l2 | exact J.l3 | exact J.row (by assumption) | exact J.ops (by assumption) | exact J.job (by assumption)) rfl (by decide) ?_
      rw [b_gs_at]
      refine bq_if_le (tgt := 42) dX6_swap_37 (by decide) (fun z9_ => absurd z9_ (show ¬ nI 1 ≤ 0 by decide)) (fun c_37 => ?_)
      refine bq_iconst (v := (nI 0)) dX6_swap_40 (by decide) ?_
      exact bq_iret dX6_swap_41 rfl (by first | rfl | decide) bq_ret_i
    · obtain ⟨p1, p2⟩ := m_in_2 (show m_rn x m < 2 ^ 30 by omega) (by rw [← r1]; exact h1)
      have hRx : m_Rw (m_xc (m_thr x (nI 0)) m (nN p)) := hR.thr.xc hm4 (by rw [m_rn_thr]; exact p2)
      by_cases h2 : m_wOk σ (m_xc (m_thr x (nI 0)) m (nN p)) = 0
      · rw [show m_swap σ x (nI m) p = (nI 0, σ, m_thr (m_xc (m_wS σ (m_xc (m_thr x (nI 0)) m (nN p))) m (nN p)) (nI 2)) by unfold m_swap; rw [e1]; exact (if_neg h1).trans (if_pos h2)]
        generalize nN p = q at p1 p2 hRx h2 ⊢
        subst p1
        refine bq_aload_n (i := 0) dX6_swap_0 rfl ?_
        refine bq_aload_n (i := 0) dX6_swap_1 rfl ?_
        refine bq_iload_n (i := 1) dX6_swap_2 rfl ?_
        refine bt_callVr (c := 6) (i := 0) dX6_swap_3 rfl ml_X6_120 (by first | assumption | exact J.v3 | exact J.v4 | exact J.v5 | exact J.v6 | exact J.l0 | exact J.l1 | exact J.l2 | exact J.l3 | exact J.row (by assumption) | exact J.ops (by assumption) | exact J.job (by assumption)) (by decide) (n_isMachine J hN) (by decide) (by decide) (Nat.le_of_ble_eq_true rfl) rfl ?_
        rw [e1]
        refine bq_if_eq (tgt := 29) dX6_swap_6 (by decide) (fun z9_ => absurd z9_ (show ¬ m_q (some m) = 0 by show ¬ nI 1 = 0; decide)) (fun c_6 => ?_)
        refine bq_iload_n (i := 2) dX6_swap_9 rfl ?_
        refine bq_iconst (v := (nI 0)) dX6_swap_10 (by decide) ?_
        refine bq_aload_n (i := 0) dX6_swap_11 rfl ?_
        refine bt_get3 (c' := 8) (n := 15) dX6_swap_12 fl_X6_19 (by first | assumption | exact J.v3 | exact J.v4 | exact J.v5 | exact J.v6 | exact J.l0 | exact J.l1 | exact J.l2 | exact J.l3 | exact J.row (by assumption) | exact J.ops (by assumption) | exact J.job (by assumption)) ⟨rfl, rfl, rfl⟩ (by decide) ?_
        refine bq_iload_n (i := 1) dX6_swap_15 rfl ?_
        refine bt_iald0 (n := 15) (j := m) dX6_swap_16 J.a15 rfl (by omega) (by decide) rfl ?_
        refine bq_iconst (v := (nI 2)) dX6_swap_17 (by decide) ?_
        refine bq_isub dX6_swap_18 ?_
        refine bq_callSr dX6_swap_19 ml_X6_81 (n_in) (by decide) (by decide) (Nat.le_of_ble_eq_true rfl) rfl ?_
        refine bq_if_eq (tgt := 29) dX6_swap_22 (by decide) (fun z9_ => absurd z9_ h1) (fun c_22 => ?_)
        refine bq_iconst (v := (nI 0)) dX6_swap_25 (by decide) ?_
        refine bq_goto (tgt := 30) dX6_swap_26 (by decide) ?_
        refine bt_put0 dX6_swap_30 fl_X6_74 (by first | assumption | exact J.v3 | exact J.v4 | exact J.v5 | exact J.v6 | exact J.l0 | exact J.l1 | exact J.l2 | exact J.l3 | exact J.row (by assumption) | exact J.ops (by assumption) | exact J.job (by assumption)) rfl (by decide) (by first | rfl | decide) (by first | rfl | decide) ?_
        refine bq_aload_n (i := 0) dX6_swap_33 rfl ?_
        refine bt_get0 dX6_swap_34 fl_X6_74 (by first | assumption | exact J.v3 | exact J.v4 | exact J.v5 | exact J.v6 | exact J.l0 | exact J.l1 | exact J.l2 | exact J.l3 | exact J.row (by assumption) | exact J.ops (by assumption) | exact J.job (by assumption)) rfl (by decide) ?_
        rw [b_gs_at]
        refine bq_if_le (tgt := 42) dX6_swap_37 (by decide) (fun c_37 => ?_) (fun z9_ => absurd (show nI 0 ≤ 0 by decide) z9_)
        refine bq_aload_n (i := 0) dX6_swap_42 rfl ?_
        refine bq_iload_n (i := 1) dX6_swap_43 rfl ?_
        refine bq_iload_n (i := 2) dX6_swap_44 rfl ?_
        refine bt_callVr (c := 6) (i := 0) dX6_swap_45 rfl ml_X6_147 (by first | assumption | exact J.v3 | exact J.v4 | exact J.v5 | exact J.v6 | exact J.l0 | exact J.l1 | exact J.l2 | exact J.l3 | exact J.row (by assumption) | exact J.ops (by assumption) | exact J.job (by assumption)) (by decide) (n_xc J hm4 (by omega)) (by decide) (by decide) (Nat.le_of_ble_eq_true rfl) rfl ?_
        refine bq_aload_n (i := 0) dX6_swap_48 rfl ?_
        refine bt_callVr (c := 6) (i := 0) dX6_swap_49 rfl ml_X6_105 (by first | assumption | exact J.v3 | exact J.v4 | exact J.v5 | exact J.v6 | exact J.l0 | exact J.l1 | exact J.l2 | exact J.l3 | exact J.row (by assumption) | exact J.ops (by assumption) | exact J.job (by assumption)) (by decide) (n_works J hN hK hRx) (by decide) (by decide) (Nat.le_of_ble_eq_true rfl) rfl ?_
        refine bq_if_ne (tgt := 67) dX6_swap_52 (by decide) (fun z9_ => absurd h2 z9_) (fun c_52 => ?_)
        refine bq_aload_n (i := 0) dX6_swap_55 rfl ?_
        refine bq_iload_n (i := 1) dX6_swap_56 rfl ?_
        refine bq_iload_n (i := 2) dX6_swap_57 rfl ?_
        refine bt_callVr (c := 6) (i := 0) dX6_swap_58 rfl ml_X6_147 (by first | assumption | exact J.v3 | exact J.v4 | exact J.v5 | exact J.v6 | exact J.l0 | exact J.l1 | exact J.l2 | exact J.l3 | exact J.row (by assumption) | exact J.ops (by assumption) | exact J.job (by assumption)) (by decide) (n_xc J hm4 (by omega)) (by decide) (by decide) (Nat.le_of_ble_eq_true rfl) rfl ?_
        refine bq_aload_n (i := 0) dX6_swap_61 rfl ?_
        refine bq_iconst (v := (nI 2)) dX6_swap_62 (by decide) ?_
        refine bt_callVr (c := 6) (i := 0) dX6_swap_63 rfl ml_X6_150 (by first | assumption | exact J.v3 | exact J.v4 | exact J.v5 | exact J.v6 | exact J.l0 | exact J.l1 | exact J.l2 | exact J.l3 | exact J.row (by assumption) | exact J.ops (by assumption) | exact J.job (by assumption)) (by decide) (n_fails J) (by decide) (by decide) (Nat.le_of_ble_eq_true rfl) rfl ?_
        exact bq_iret dX6_swap_66 rfl (by first | rfl | decide) bq_ret_i
      · rw [show m_swap σ x (nI m) p = (m_span σ (m_wS σ (m_xc (m_thr x (nI 0)) m (nN p))), σ, m_wS σ (m_xc (m_thr x (nI 0)) m (nN p))) by unfold m_swap; rw [e1]; exact (if_neg h1).trans (if_neg h2)]
        generalize nN p = q at p1 p2 hRx h2 ⊢
        subst p1
        refine bq_aload_n (i := 0) dX6_swap_0 rfl ?_
        refine bq_aload_n (i := 0) dX6_swap_1 rfl ?_
        refine bq_iload_n (i := 1) dX6_swap_2 rfl ?_
        refine bt_callVr (c := 6) (i := 0) dX6_swap_3 rfl ml_X6_120 (by first | assumption | exact J.v3 | exact J.v4 | exact J.v5 | exact J.v6 | exact J.l0 | exact J.l1 | exact J.l2 | exact J.l3 | exact J.row (by assumption) | exact J.ops (by assumption) | exact J.job (by assumption)) (by decide) (n_isMachine J hN) (by decide) (by decide) (Nat.le_of_ble_eq_true rfl) rfl ?_
        rw [e1]
        refine bq_if_eq (tgt := 29) dX6_swap_6 (by decide) (fun z9_ => absurd z9_ (show ¬ m_q (some m) = 0 by show ¬ nI 1 = 0; decide)) (fun c_6 => ?_)
        refine bq_iload_n (i := 2) dX6_swap_9 rfl ?_
        refine bq_iconst (v := (nI 0)) dX6_swap_10 (by decide) ?_
        refine bq_aload_n (i := 0) dX6_swap_11 rfl ?_
        refine bt_get3 (c' := 8) (n := 15) dX6_swap_12 fl_X6_19 (by first | assumption | exact J.v3 | exact J.v4 | exact J.v5 | exact J.v6 | exact J.l0 | exact J.l1 | exact J.l2 | exact J.l3 | exact J.row (by assumption) | exact J.ops (by assumption) | exact J.job (by assumption)) ⟨rfl, rfl, rfl⟩ (by decide) ?_
        refine bq_iload_n (i := 1) dX6_swap_15 rfl ?_
        refine bt_iald0 (n := 15) (j := m) dX6_swap_16 J.a15 rfl (by omega) (by decide) rfl ?_
        refine bq_iconst (v := (nI 2)) dX6_swap_17 (by decide) ?_
        refine bq_isub dX6_swap_18 ?_
        refine bq_callSr dX6_swap_19 ml_X6_81 (n_in) (by decide) (by decide) (Nat.le_of_ble_eq_true rfl) rfl ?_
        refine bq_if_eq (tgt := 29) dX6_swap_22 (by decide) (fun z9_ => absurd z9_ h1) (fun c_22 => ?_)
        refine bq_iconst (v := (nI 0)) dX6_swap_25 (by decide) ?_
        refine bq_goto (tgt := 30) dX6_swap_26 (by decide) ?_
        refine bt_put0 dX6_swap_30 fl_X6_74 (by first | assumption | exact J.v3 | exact J.v4 | exact J.v5 | exact J.v6 | exact J.l0 | exact J.l1 | exact J.l2 | exact J.l3 | exact J.row (by assumption) | exact J.ops (by assumption) | exact J.job (by assumption)) rfl (by decide) (by first | rfl | decide) (by first | rfl | decide) ?_
        refine bq_aload_n (i := 0) dX6_swap_33 rfl ?_
        refine bt_get0 dX6_swap_34 fl_X6_74 (by first | assumption | exact J.v3 | exact J.v4 | exact J.v5 | exact J.v6 | exact J.l0 | exact J.l1 | exact J.l2 | exact J.l3 | exact J.row (by assumption) | exact J.ops (by assumption) | exact J.job (by assumption)) rfl (by decide) ?_
        rw [b_gs_at]
        refine bq_if_le (tgt := 42) dX6_swap_37 (by decide) (fun c_37 => ?_) (fun z9_ => absurd (show nI 0 ≤ 0 by decide) z9_)
        refine bq_aload_n (i := 0) dX6_swap_42 rfl ?_
        refine bq_iload_n (i := 1) dX6_swap_43 rfl ?_
        refine bq_iload_n (i := 2) dX6_swap_44 rfl ?_
        refine bt_callVr (c := 6) (i := 0) dX6_swap_45 rfl ml_X6_147 (by first | assumption | exact J.v3 | exact J.v4 | exact J.v5 | exact J.v6 | exact J.l0 | exact J.l1 | exact J.l2 | exact J.l3 | exact J.row (by assumption) | exact J.ops (by assumption) | exact J.job (by assumption)) (by decide) (n_xc J hm4 (by omega)) (by decide) (by decide) (Nat.le_of_ble_eq_true rfl) rfl ?_
        refine bq_aload_n (i := 0) dX6_swap_48 rfl ?_
        refine bt_callVr (c := 6) (i := 0) dX6_swap_49 rfl ml_X6_105 (by first | assumption | exact J.v3 | exact J.v4 | exact J.v5 | exact J.v6 | exact J.l0 | exact J.l1 | exact J.l2 | exact J.l3 | exact J.row (by assumption) | exact J.ops (by assumption) | exact J.job (by assumption)) (by decide) (n_works J hN hK hRx) (by decide) (by decide) (Nat.le_of_ble_eq_true rfl) rfl ?_
        refine bq_if_ne (tgt := 67) dX6_swap_52 (by decide) (fun c_52 => ?_) (fun z9_ => absurd z9_ h2)
        refine bq_aload_n (i := 0) dX6_swap_67 rfl ?_
        refine bt_callVr (c := 6) (i := 0) dX6_swap_68 rfl ml_X6_109 (by first | assumption | exact J.v3 | exact J.v4 | exact J.v5 | exact J.v6 | exact J.l0 | exact J.l1 | exact J.l2 | exact J.l3 | exact J.row (by assumption) | exact J.ops (by assumption) | exact J.job (by assumption)) (by decide) (n_span J) (by decide) (by decide) (Nat.le_of_ble_eq_true rfl) rfl ?_
        exact bq_iret dX6_swap_71 rfl (by first | rfl | decide) bq_ret_i
def m_plcd (σ x : bt_X) (a : Int32) : m_Rt := match b_ix (m_nm σ) a with
  | none => (nI 0, σ, m_thr (m_thr x (nI 0)) (nI 1))
  | some m => (x.1 8 15 m, σ, m_thr x (nI 0))
def m_plAt (σ x : bt_X) (a p : Int32) : m_Rt := match b_ix (m_nm σ) a with
  | none => (nI 0, σ, m_thr (m_thr x (nI 0)) (nI 1))
  | some m => match b_ix (m_rn x m) p with
    | none => (nI 0, σ, m_thr (m_thr x (nI 0)) (nI 1))
    | some q => (m_code (m_ro x m q), σ, m_thr x (nI 0))
set_option maxRecDepth 100000 in
set_option maxHeartbeats 400000 in
theorem n_plcd {G : bp_X} {α : bt_A} {σ x : bt_X} {a : Int32} (J : m_J α) (hN : m_Nn σ) : bq_S G mX6_placed 2 [.ref (bt_ad α 6 0), .int a] (bt α σ x) (bq_ret (some (.int (m_plcd σ x a).1)) (bt α (m_plcd σ x a).2.1 (m_plcd σ x a).2.2)) := by
  refine bq_ofW (by decide +kernel) rfl (Nat.le_of_ble_eq_true rfl) ?_
  cases e1 : b_ix (m_nm σ) a with
  | none =>
    rw [show m_plcd σ x a = (nI 0, σ, m_thr (m_thr x (nI 0)) (nI 1)) by unfold m_plcd; rw [e1]]
    refine bq_aload_n (i := 0) dX6_placed_0 rfl ?_
    refine bq_iconst (v := (nI 0)) dX6_placed_1 (by decide) ?_
    refine bt_put0 dX6_placed_2 fl_X6_74 (by first | assumption | exact J.v3 | exact J.v4 | exact J.v5 | exact J.v6 | exact J.l0 | exact J.l1 | exact J.l2 | exact J.l3 | exact J.row (by assumption) | exact J.ops (by assumption) | exact J.job (by assumption)) rfl (by decide) (by first | rfl | decide) (by first | rfl | decide) ?_
    refine bq_aload_n (i := 0) dX6_placed_5 rfl ?_
    refine bq_iload_n (i := 1) dX6_placed_6 rfl ?_
    refine bt_callVr (c := 6) (i := 0) dX6_placed_7 rfl ml_X6_120 (by first | assumption | exact J.v3 | exact J.v4 | exact J.v5 | exact J.v6 | exact J.l0 | exact J.l1 | exact J.l2 | exact J.l3 | exact J.row (by assumption) | exact J.ops (by assumption) | exact J.job (by assumption)) (by decide) (n_isMachine J hN) (by decide) (by decide) (Nat.le_of_ble_eq_true rfl) rfl ?_
    rw [e1]
    refine bq_if_eq (tgt := 22) dX6_placed_10 (by decide) (fun c_10 => ?_) (fun z9_ => absurd (show m_q none = 0 from rfl) z9_)
    refine bq_aload_n (i := 0) dX6_placed_22 rfl ?_
    refine bq_iconst (v := (nI 1)) dX6_placed_23 (by decide) ?_
    refine bt_callVr (c := 6) (i := 0) dX6_placed_24 rfl ml_X6_150 (by first | assumption | exact J.v3 | exact J.v4 | exact J.v5 | exact J.v6 | exact J.l0 | exact J.l1 | exact J.l2 | exact J.l3 | exact J.row (by assumption) | exact J.ops (by assumption) | exact J.job (by assumption)) (by decide) (n_fails J) (by decide) (by decide) (Nat.le_of_ble_eq_true rfl) rfl ?_
    exact bq_iret dX6_placed_27 rfl (by first | rfl | decide) bq_ret_i
  | some m =>
    have hb0 : m_nm σ < 9 := by have := hN.1.l; exact Nat.lt_of_lt_of_le this (by decide)
    obtain ⟨ea, hmn⟩ := m_ix_e (by omega) e1
    have hm4 := m_nm4 hN hmn
    subst ea
    rw [show m_plcd σ x (nI m) = (x.1 8 15 m, σ, m_thr x (nI 0)) by unfold m_plcd; rw [e1]]
    refine bq_aload_n (i := 0) dX6_placed_0 rfl ?_
    refine bq_iconst (v := (nI 0)) dX6_placed_1 (by decide) ?_
    refine bt_put0 dX6_placed_2 fl_X6_74 (by first | assumption | exact J.v3 | exact J.v4 | exact J.v5 | exact J.v6 | exact J.l0 | exact J.l1 | exact J.l2 | exact J.l3 | exact J.row (by assumption) | exact J.ops (by assumption) | exact J.job (by assumption)) rfl (by decide) (by first | rfl | decide) (by first | rfl | decide) ?_
    refine bq_aload_n (i := 0) dX6_placed_5 rfl ?_
    refine bq_iload_n (i := 1) dX6_placed_6 rfl ?_
    refine bt_callVr (c := 6) (i := 0) dX6_placed_7 rfl ml_X6_120 (by first | assumption | exact J.v3 | exact J.v4 | exact J.v5 | exact J.v6 | exact J.l0 | exact J.l1 | exact J.l2 | exact J.l3 | exact J.row (by assumption) | exact J.ops (by assumption) | exact J.job (by assumption)) (by decide) (n_isMachine J hN) (by decide) (by decide) (Nat.le_of_ble_eq_true rfl) rfl ?_
    rw [e1]
    refine bq_if_eq (tgt := 22) dX6_placed_10 (by decide) (fun z9_ => absurd z9_ (show ¬ m_q (some m) = 0 by show ¬ nI 1 = 0; decide)) (fun c_10 => ?_)
    refine bq_aload_n (i := 0) dX6_placed_13 rfl ?_
    refine bt_get3 (c' := 8) (n := 15) dX6_placed_14 fl_X6_19 (by first | assumption | exact J.v3 | exact J.v4 | exact J.v5 | exact J.v6 | exact J.l0 | exact J.l1 | exact J.l2 | exact J.l3 | exact J.row (by assumption) | exact J.ops (by assumption) | exact J.job (by assumption)) ⟨rfl, rfl, rfl⟩ (by decide) ?_
    refine bq_iload_n (i := 1) dX6_placed_17 rfl ?_
    refine bt_iald0 (n := 15) (j := m) dX6_placed_18 J.a15 rfl (by omega) (by decide) rfl ?_
    rw [b_gs_ne (by omega)]
    refine bq_goto (tgt := 27) dX6_placed_19 (by decide) ?_
    exact bq_iret dX6_placed_27 rfl (by first | rfl | decide) bq_ret_i
set_option maxRecDepth 100000 in
set_option maxHeartbeats 400000 in
theorem n_plAt {G : bp_X} {α : bt_A} {σ x : bt_X} {a p : Int32} (J : m_J α) (hN : m_Nn σ) (hR : m_Rw x) : bq_S G mX6_placedAt 2 [.ref (bt_ad α 6 0), .int a, .int p] (bt α σ x) (bq_ret (some (.int (m_plAt σ x a p).1)) (bt α (m_plAt σ x a p).2.1 (m_plAt σ x a p).2.2)) := by
  refine bq_ofW (by decide +kernel) rfl (Nat.le_of_ble_eq_true rfl) ?_
  cases e1 : b_ix (m_nm σ) a with
  | none =>
    rw [show m_plAt σ x a p = (nI 0, σ, m_thr (m_thr x (nI 0)) (nI 1)) by unfold m_plAt; rw [e1]]
    refine bq_aload_n (i := 0) dX6_placedAt_0 rfl ?_
    refine bq_iconst (v := (nI 0)) dX6_placedAt_1 (by decide) ?_
    refine bt_put0 dX6_placedAt_2 fl_X6_74 (by first | assumption | exact J.v3 | exact J.v4 | exact J.v5 | exact J.v6 | exact J.l0 | exact J.l1 | exact J.l2 | exact J.l3 | exact J.row (by assumption) | exact J.ops (by assumption) | exact J.job (by assumption)) rfl (by decide) (by first | rfl | decide) (by first | rfl | decide) ?_
    refine bq_aload_n (i := 0) dX6_placedAt_5 rfl ?_
    refine bq_iload_n (i := 1) dX6_placedAt_6 rfl ?_
    refine bt_callVr (c := 6) (i := 0) dX6_placedAt_7 rfl ml_X6_120 (by first | assumption | exact J.v3 | exact J.v4 | exact J.v5 | exact J.v6 | exact J.l0 | exact J.l1 | exact J.l2 | exact J.l3 | exact J.row (by assumption) | exact J.ops (by assumption) | exact J.job (by assumption)) (by decide) (n_isMachine J hN) (by decide) (by decide) (Nat.le_of_ble_eq_true rfl) rfl ?_
    rw [e1]
    refine bq_if_eq (tgt := 46) dX6_placedAt_10 (by decide) (fun c_10 => ?_) (fun z9_ => absurd (show m_q none = 0 from rfl) z9_)
    refine bq_aload_n (i := 0) dX6_placedAt_46 rfl ?_
    refine bq_iconst (v := (nI 1)) dX6_placedAt_47 (by decide) ?_
    refine bt_callVr (c := 6) (i := 0) dX6_placedAt_48 rfl ml_X6_150 (by first | assumption | exact J.v3 | exact J.v4 | exact J.v5 | exact J.v6 | exact J.l0 | exact J.l1 | exact J.l2 | exact J.l3 | exact J.row (by assumption) | exact J.ops (by assumption) | exact J.job (by assumption)) (by decide) (n_fails J) (by decide) (by decide) (Nat.le_of_ble_eq_true rfl) rfl ?_
    exact bq_iret dX6_placedAt_51 rfl (by first | rfl | decide) bq_ret_i
  | some m =>
    have hb0 : m_nm σ < 9 := by have := hN.1.l; exact Nat.lt_of_lt_of_le this (by decide)
    obtain ⟨ea, hmn⟩ := m_ix_e (by omega) e1
    have hm4 := m_nm4 hN hmn
    subst ea
    obtain ⟨r1, r2⟩ := m_rn_e hR hm4
    cases e2 : b_ix (m_rn x m) p with
    | none =>
      rw [show m_plAt σ x (nI m) p = (nI 0, σ, m_thr (m_thr x (nI 0)) (nI 1)) by unfold m_plAt; rw [e1]; simp only []; rw [e2]]
      refine bq_aload_n (i := 0) dX6_placedAt_0 rfl ?_
      refine bq_iconst (v := (nI 0)) dX6_placedAt_1 (by decide) ?_
      refine bt_put0 dX6_placedAt_2 fl_X6_74 (by first | assumption | exact J.v3 | exact J.v4 | exact J.v5 | exact J.v6 | exact J.l0 | exact J.l1 | exact J.l2 | exact J.l3 | exact J.row (by assumption) | exact J.ops (by assumption) | exact J.job (by assumption)) rfl (by decide) (by first | rfl | decide) (by first | rfl | decide) ?_
      refine bq_aload_n (i := 0) dX6_placedAt_5 rfl ?_
      refine bq_iload_n (i := 1) dX6_placedAt_6 rfl ?_
      refine bt_callVr (c := 6) (i := 0) dX6_placedAt_7 rfl ml_X6_120 (by first | assumption | exact J.v3 | exact J.v4 | exact J.v5 | exact J.v6 | exact J.l0 | exact J.l1 | exact J.l2 | exact J.l3 | exact J.row (by assumption) | exact J.ops (by assumption) | exact J.job (by assumption)) (by decide) (n_isMachine J hN) (by decide) (by decide) (Nat.le_of_ble_eq_true rfl) rfl ?_
      rw [e1]
      refine bq_if_eq (tgt := 46) dX6_placedAt_10 (by decide) (fun z9_ => absurd z9_ (show ¬ m_q (some m) = 0 by show ¬ nI 1 = 0; decide)) (fun c_10 => ?_)
      refine bq_iload_n (i := 2) dX6_placedAt_13 rfl ?_
      refine bq_iconst (v := (nI 0)) dX6_placedAt_14 (by decide) ?_
      refine bq_aload_n (i := 0) dX6_placedAt_15 rfl ?_
      refine bt_get3 (c' := 8) (n := 15) dX6_placedAt_16 fl_X6_19 (by first | assumption | exact J.v3 | exact J.v4 | exact J.v5 | exact J.v6 | exact J.l0 | exact J.l1 | exact J.l2 | exact J.l3 | exact J.row (by assumption) | exact J.ops (by assumption) | exact J.job (by assumption)) ⟨rfl, rfl, rfl⟩ (by decide) ?_
      refine bq_iload_n (i := 1) dX6_placedAt_19 rfl ?_
      refine bt_iald0 (n := 15) (j := m) dX6_placedAt_20 J.a15 rfl (by omega) (by decide) rfl ?_
      rw [b_gs_ne (by omega), r1]
      refine bq_iconst (v := (nI 1)) dX6_placedAt_21 (by decide) ?_
      refine bq_isub dX6_placedAt_22 ?_
      refine bq_callSr dX6_placedAt_23 ml_X6_81 (n_in) (by decide) (by decide) (Nat.le_of_ble_eq_true rfl) rfl ?_
      rw [m_in_ix (by omega), e2]
      refine bq_if_eq (tgt := 46) dX6_placedAt_26 (by decide) (fun c_26 => ?_) (fun z9_ => absurd (show m_q none = 0 from rfl) z9_)
      refine bq_aload_n (i := 0) dX6_placedAt_46 rfl ?_
      refine bq_iconst (v := (nI 1)) dX6_placedAt_47 (by decide) ?_
      refine bt_callVr (c := 6) (i := 0) dX6_placedAt_48 rfl ml_X6_150 (by first | assumption | exact J.v3 | exact J.v4 | exact J.v5 | exact J.v6 | exact J.l0 | exact J.l1 | exact J.l2 | exact J.l3 | exact J.row (by assumption) | exact J.ops (by assumption) | exact J.job (by assumption)) (by decide) (n_fails J) (by decide) (by decide) (Nat.le_of_ble_eq_true rfl) rfl ?_
      exact bq_iret dX6_placedAt_51 rfl (by first | rfl | decide) bq_ret_i
    | some q =>
      obtain ⟨ep, hq⟩ := m_ix_e (by omega) e2
      subst ep
      obtain ⟨q1, q2⟩ := m_ro_e hR hm4 hq
      rw [show m_plAt σ x (nI m) (nI q) = (m_code (m_ro x m q), σ, m_thr x (nI 0)) by unfold m_plAt; rw [e1]; simp only []; rw [e2]]
      refine bq_aload_n (i := 0) dX6_placedAt_0 rfl ?_
      refine bq_iconst (v := (nI 0)) dX6_placedAt_1 (by decide) ?_
      refine bt_put0 dX6_placedAt_2 fl_X6_74 (by first | assumption | exact J.v3 | exact J.v4 | exact J.v5 | exact J.v6 | exact J.l0 | exact J.l1 | exact J.l2 | exact J.l3 | exact J.row (by assumption) | exact J.ops (by assumption) | exact J.job (by assumption)) rfl (by decide) (by first | rfl | decide) (by first | rfl | decide) ?_
      refine bq_aload_n (i := 0) dX6_placedAt_5 rfl ?_
      refine bq_iload_n (i := 1) dX6_placedAt_6 rfl ?_
      refine bt_callVr (c := 6) (i := 0) dX6_placedAt_7 rfl ml_X6_120 (by first | assumption | exact J.v3 | exact J.v4 | exact J.v5 | exact J.v6 | exact J.l0 | exact J.l1 | exact J.l2 | exact J.l3 | exact J.row (by assumption) | exact J.ops (by assumption) | exact J.job (by assumption)) (by decide) (n_isMachine J hN) (by decide) (by decide) (Nat.le_of_ble_eq_true rfl) rfl ?_
      rw [e1]
      refine bq_if_eq (tgt := 46) dX6_placedAt_10 (by decide) (fun z9_ => absurd z9_ (show ¬ m_q (some m) = 0 by show ¬ nI 1 = 0; decide)) (fun c_10 => ?_)
      refine bq_iload_n (i := 2) dX6_placedAt_13 rfl ?_
      refine bq_iconst (v := (nI 0)) dX6_placedAt_14 (by decide) ?_
      refine bq_aload_n (i := 0) dX6_placedAt_15 rfl ?_
      refine bt_get3 (c' := 8) (n := 15) dX6_placedAt_16 fl_X6_19 (by first | assumption | exact J.v3 | exact J.v4 | exact J.v5 | exact J.v6 | exact J.l0 | exact J.l1 | exact J.l2 | exact J.l3 | exact J.row (by assumption) | exact J.ops (by assumption) | exact J.job (by assumption)) ⟨rfl, rfl, rfl⟩ (by decide) ?_
      refine bq_iload_n (i := 1) dX6_placedAt_19 rfl ?_
      refine bt_iald0 (n := 15) (j := m) dX6_placedAt_20 J.a15 rfl (by omega) (by decide) rfl ?_
      rw [b_gs_ne (by omega), r1]
      refine bq_iconst (v := (nI 1)) dX6_placedAt_21 (by decide) ?_
      refine bq_isub dX6_placedAt_22 ?_
      refine bq_callSr dX6_placedAt_23 ml_X6_81 (n_in) (by decide) (by decide) (Nat.le_of_ble_eq_true rfl) rfl ?_
      rw [m_in_ix (by omega), e2]
      refine bq_if_eq (tgt := 46) dX6_placedAt_26 (by decide) (fun z9_ => absurd z9_ (show ¬ m_q (some q) = 0 by show ¬ nI 1 = 0; decide)) (fun c_26 => ?_)
      refine bq_aload_n (i := 0) dX6_placedAt_29 rfl ?_
      refine bt_get3 (c' := 8) (n := 16) dX6_placedAt_30 fl_X6_22 (by first | assumption | exact J.v3 | exact J.v4 | exact J.v5 | exact J.v6 | exact J.l0 | exact J.l1 | exact J.l2 | exact J.l3 | exact J.row (by assumption) | exact J.ops (by assumption) | exact J.job (by assumption)) ⟨rfl, rfl, rfl⟩ (by decide) ?_
      refine bq_bipush (v := (nI 32)) dX6_placedAt_33 (by decide) ?_
      refine bq_iload_n (i := 1) dX6_placedAt_35 rfl ?_
      refine bq_imul dX6_placedAt_36 ?_
      refine bq_iload_n (i := 2) dX6_placedAt_37 rfl ?_
      refine bq_iadd dX6_placedAt_38 ?_
      refine bt_iald0 (n := 16) (j := (32 * m + q)) dX6_placedAt_39 J.a16 (by rw [pk_mul, nI_add]) (by omega) (by decide) rfl ?_
      rw [b_gs_ne (by omega), q1]
      refine bq_callSr dX6_placedAt_40 ml_X6_153 (n_code q2) (by decide) (by decide) (Nat.le_of_ble_eq_true rfl) rfl ?_
      refine bq_goto (tgt := 51) dX6_placedAt_43 (by decide) ?_
      exact bq_iret dX6_placedAt_51 rfl (by first | rfl | decide) bq_ret_i
/-- the operation that is asked for, or what is thrown -/
def m_ask (σ : bt_X) (a b : Int32) : Nat ⊕ Nat := match b_ix (m_nj σ) a with
  | none => .inr 1
  | some j => match b_ix (m_np σ j) b with
    | none => .inr 1
    | some k => if σ.1 8 20 j = 0 then .inr 2 else .inl (4 * j + k)
def m_askt : Nat ⊕ Nat → Nat
  | .inl _ => 0
  | .inr c => c
def m_askv : Nat ⊕ Nat → Nat
  | .inl _ => 1
  | .inr _ => 0
theorem m_ask_l {σ : bt_X} (hN : m_Nn σ) {a b : Int32} {p : Nat} (h : m_ask σ a b = .inl p) : ∃ j k, a = nI j ∧ b = nI k ∧ j < 8 ∧ k < m_np σ j ∧ j < m_nj σ ∧ ¬ σ.1 8 20 j = 0 ∧ p = 4 * j + k ∧ p < 32 := by
  unfold m_ask at h
  have hj9 : m_nj σ < 9 := hN.2.1.l
  split at h
  · cases h
  · rename_i j e1
    obtain ⟨ea, hj⟩ := m_ix_e (by omega) e1
    have hj8 := m_nj8 hN hj
    obtain ⟨g1, g2⟩ := m_np_e hN hj8
    split at h
    · cases h
    · rename_i k e2
      obtain ⟨eb, hk⟩ := m_ix_e (by omega) e2
      split at h
      · cases h
      · rename_i c
        cases h
        exact ⟨j, k, ea, eb, hj8, hk, hj, c, rfl, by omega⟩
set_option maxRecDepth 100000 in
set_option maxHeartbeats 400000 in
theorem n_ask {G : bp_X} {α : bt_A} {σ x : bt_X} {a b : Int32} (J : m_J α) (hN : m_Nn σ) : bq_S G mX6_isAsked 2 [.ref (bt_ad α 6 0), .int a, .int b] (bt α σ x) (bq_ret (some (.int (nI (m_askv (m_ask σ a b))))) (bt α σ (m_thr x (nI (m_askt (m_ask σ a b)))))) := by
  refine bq_ofW (by decide +kernel) rfl (Nat.le_of_ble_eq_true rfl) ?_
  cases e1 : b_ix (m_nj σ) a with
  | none =>
    rw [show m_ask σ a b = .inr 1 by unfold m_ask; rw [e1]]
    refine bq_aload_n (i := 0) dX6_isAsked_0 rfl ?_
    refine bq_aload_n (i := 0) dX6_isAsked_1 rfl ?_
    refine bq_iload_n (i := 1) dX6_isAsked_2 rfl ?_
    refine bt_callVr (c := 6) (i := 0) dX6_isAsked_3 rfl ml_X6_127 (by first | assumption | exact J.v3 | exact J.v4 | exact J.v5 | exact J.v6 | exact J.l0 | exact J.l1 | exact J.l2 | exact J.l3 | exact J.row (by assumption) | exact J.ops (by assumption) | exact J.job (by assumption)) (by decide) (n_isJob J hN) (by decide) (by decide) (Nat.le_of_ble_eq_true rfl) rfl ?_
    rw [e1]
    refine bq_if_eq (tgt := 25) dX6_isAsked_6 (by decide) (fun c_6 => ?_) (fun z9_ => absurd (show m_q none = 0 from rfl) z9_)
    refine bq_iconst (v := (nI 1)) dX6_isAsked_25 (by decide) ?_
    refine bq_goto (tgt := 43) dX6_isAsked_26 (by decide) ?_
    refine bt_put0 dX6_isAsked_43 fl_X6_74 (by first | assumption | exact J.v3 | exact J.v4 | exact J.v5 | exact J.v6 | exact J.l0 | exact J.l1 | exact J.l2 | exact J.l3 | exact J.row (by assumption) | exact J.ops (by assumption) | exact J.job (by assumption)) rfl (by decide) (by first | rfl | decide) (by first | rfl | decide) ?_
    refine bq_aload_n (i := 0) dX6_isAsked_46 rfl ?_
    refine bt_get0 dX6_isAsked_47 fl_X6_74 (by first | assumption | exact J.v3 | exact J.v4 | exact J.v5 | exact J.v6 | exact J.l0 | exact J.l1 | exact J.l2 | exact J.l3 | exact J.row (by assumption) | exact J.ops (by assumption) | exact J.job (by assumption)) rfl (by decide) ?_
    rw [b_gs_at]
    refine bq_if_ne (tgt := 57) dX6_isAsked_50 (by decide) (fun c_50 => ?_) (fun z9_ => absurd z9_ (show ¬ nI 1 = 0 by decide))
    refine bq_iconst (v := (nI 0)) dX6_isAsked_57 (by decide) ?_
    exact bq_iret dX6_isAsked_58 rfl (by first | rfl | decide) bq_ret_i
  | some j =>
    have hb0 : m_nj σ < 9 := by have := hN.2.1.l; exact Nat.lt_of_lt_of_le this (by decide)
    obtain ⟨ea, hmn⟩ := m_ix_e (by omega) e1
    have hj8 := m_nj8 hN hmn
    obtain ⟨g1, g2⟩ := m_np_e hN hj8
    subst ea
    cases e2 : b_ix (m_np σ j) b with
    | none =>
      rw [show m_ask σ (nI j) b = .inr 1 by unfold m_ask; rw [e1]; simp only []; rw [e2]]
      refine bq_aload_n (i := 0) dX6_isAsked_0 rfl ?_
      refine bq_aload_n (i := 0) dX6_isAsked_1 rfl ?_
      refine bq_iload_n (i := 1) dX6_isAsked_2 rfl ?_
      refine bt_callVr (c := 6) (i := 0) dX6_isAsked_3 rfl ml_X6_127 (by first | assumption | exact J.v3 | exact J.v4 | exact J.v5 | exact J.v6 | exact J.l0 | exact J.l1 | exact J.l2 | exact J.l3 | exact J.row (by assumption) | exact J.ops (by assumption) | exact J.job (by assumption)) (by decide) (n_isJob J hN) (by decide) (by decide) (Nat.le_of_ble_eq_true rfl) rfl ?_
      rw [e1]
      refine bq_if_eq (tgt := 25) dX6_isAsked_6 (by decide) (fun z9_ => absurd z9_ (show ¬ m_q (some j) = 0 by show ¬ nI 1 = 0; decide)) (fun c_6 => ?_)
      refine bq_iload_n (i := 2) dX6_isAsked_9 rfl ?_
      refine bq_iconst (v := (nI 0)) dX6_isAsked_10 (by decide) ?_
      refine bq_aload_n (i := 0) dX6_isAsked_11 rfl ?_
      refine bt_get3 (c' := 8) (n := 19) dX6_isAsked_12 fl_X6_28 (by first | assumption | exact J.v3 | exact J.v4 | exact J.v5 | exact J.v6 | exact J.l0 | exact J.l1 | exact J.l2 | exact J.l3 | exact J.row (by assumption) | exact J.ops (by assumption) | exact J.job (by assumption)) ⟨rfl, rfl, rfl⟩ (by decide) ?_
      refine bq_iload_n (i := 1) dX6_isAsked_15 rfl ?_
      refine bt_iald4 (n := 19) (j := j) dX6_isAsked_16 J.a19 rfl (by omega) (by decide) rfl ?_
      rw [g1]
      refine bq_iconst (v := (nI 1)) dX6_isAsked_17 (by decide) ?_
      refine bq_isub dX6_isAsked_18 ?_
      refine bq_callSr dX6_isAsked_19 ml_X6_81 (n_in) (by decide) (by decide) (Nat.le_of_ble_eq_true rfl) rfl ?_
      rw [m_in_ix (by omega), e2]
      refine bq_if_ne (tgt := 29) dX6_isAsked_22 (by decide) (fun z9_ => absurd (show m_q none = 0 from rfl) z9_) (fun c_22 => ?_)
      refine bq_iconst (v := (nI 1)) dX6_isAsked_25 (by decide) ?_
      refine bq_goto (tgt := 43) dX6_isAsked_26 (by decide) ?_
      refine bt_put0 dX6_isAsked_43 fl_X6_74 (by first | assumption | exact J.v3 | exact J.v4 | exact J.v5 | exact J.v6 | exact J.l0 | exact J.l1 | exact J.l2 | exact J.l3 | exact J.row (by assumption) | exact J.ops (by assumption) | exact J.job (by assumption)) rfl (by decide) (by first | rfl | decide) (by first | rfl | decide) ?_
      refine bq_aload_n (i := 0) dX6_isAsked_46 rfl ?_
      refine bt_get0 dX6_isAsked_47 fl_X6_74 (by first | assumption | exact J.v3 | exact J.v4 | exact J.v5 | exact J.v6 | exact J.l0 | exact J.l1 | exact J.l2 | exact J.l3 | exact J.row (by assumption) | exact J.ops (by assumption) | exact J.job (by assumption)) rfl (by decide) ?_
      rw [b_gs_at]
      refine bq_if_ne (tgt := 57) dX6_isAsked_50 (by decide) (fun c_50 => ?_) (fun z9_ => absurd z9_ (show ¬ nI 1 = 0 by decide))
      refine bq_iconst (v := (nI 0)) dX6_isAsked_57 (by decide) ?_
      exact bq_iret dX6_isAsked_58 rfl (by first | rfl | decide) bq_ret_i
    | some q =>
      by_cases h1 : σ.1 8 20 j = 0
      · rw [show m_ask σ (nI j) b = .inr 2 by unfold m_ask; rw [e1]; simp only []; rw [e2]; exact if_pos h1]
        refine bq_aload_n (i := 0) dX6_isAsked_0 rfl ?_
        refine bq_aload_n (i := 0) dX6_isAsked_1 rfl ?_
        refine bq_iload_n (i := 1) dX6_isAsked_2 rfl ?_
        refine bt_callVr (c := 6) (i := 0) dX6_isAsked_3 rfl ml_X6_127 (by first | assumption | exact J.v3 | exact J.v4 | exact J.v5 | exact J.v6 | exact J.l0 | exact J.l1 | exact J.l2 | exact J.l3 | exact J.row (by assumption) | exact J.ops (by assumption) | exact J.job (by assumption)) (by decide) (n_isJob J hN) (by decide) (by decide) (Nat.le_of_ble_eq_true rfl) rfl ?_
        rw [e1]
        refine bq_if_eq (tgt := 25) dX6_isAsked_6 (by decide) (fun z9_ => absurd z9_ (show ¬ m_q (some j) = 0 by show ¬ nI 1 = 0; decide)) (fun c_6 => ?_)
        refine bq_iload_n (i := 2) dX6_isAsked_9 rfl ?_
        refine bq_iconst (v := (nI 0)) dX6_isAsked_10 (by decide) ?_
        refine bq_aload_n (i := 0) dX6_isAsked_11 rfl ?_
        refine bt_get3 (c' := 8) (n := 19) dX6_isAsked_12 fl_X6_28 (by first | assumption | exact J.v3 | exact J.v4 | exact J.v5 | exact J.v6 | exact J.l0 | exact J.l1 | exact J.l2 | exact J.l3 | exact J.row (by assumption) | exact J.ops (by assumption) | exact J.job (by assumption)) ⟨rfl, rfl, rfl⟩ (by decide) ?_
        refine bq_iload_n (i := 1) dX6_isAsked_15 rfl ?_
        refine bt_iald4 (n := 19) (j := j) dX6_isAsked_16 J.a19 rfl (by omega) (by decide) rfl ?_
        rw [g1]
        refine bq_iconst (v := (nI 1)) dX6_isAsked_17 (by decide) ?_
        refine bq_isub dX6_isAsked_18 ?_
        refine bq_callSr dX6_isAsked_19 ml_X6_81 (n_in) (by decide) (by decide) (Nat.le_of_ble_eq_true rfl) rfl ?_
        rw [m_in_ix (by omega), e2]
        refine bq_if_ne (tgt := 29) dX6_isAsked_22 (by decide) (fun c_22 => ?_) (fun z9_ => absurd z9_ (show ¬ m_q (some q) = 0 by show ¬ nI 1 = 0; decide))
        refine bq_aload_n (i := 0) dX6_isAsked_29 rfl ?_
        refine bt_get3 (c' := 8) (n := 20) dX6_isAsked_30 fl_X6_31 (by first | assumption | exact J.v3 | exact J.v4 | exact J.v5 | exact J.v6 | exact J.l0 | exact J.l1 | exact J.l2 | exact J.l3 | exact J.row (by assumption) | exact J.ops (by assumption) | exact J.job (by assumption)) ⟨rfl, rfl, rfl⟩ (by decide) ?_
        refine bq_iload_n (i := 1) dX6_isAsked_33 rfl ?_
        refine bt_zald4 (n := 20) (j := j) dX6_isAsked_34 J.a20 rfl (by omega) (by decide) rfl ?_
        refine bq_if_eq (tgt := 42) dX6_isAsked_35 (by decide) (fun c_35 => ?_) (fun z9_ => absurd h1 z9_)
        refine bq_iconst (v := (nI 2)) dX6_isAsked_42 (by decide) ?_
        refine bt_put0 dX6_isAsked_43 fl_X6_74 (by first | assumption | exact J.v3 | exact J.v4 | exact J.v5 | exact J.v6 | exact J.l0 | exact J.l1 | exact J.l2 | exact J.l3 | exact J.row (by assumption) | exact J.ops (by assumption) | exact J.job (by assumption)) rfl (by decide) (by first | rfl | decide) (by first | rfl | decide) ?_
        refine bq_aload_n (i := 0) dX6_isAsked_46 rfl ?_
        refine bt_get0 dX6_isAsked_47 fl_X6_74 (by first | assumption | exact J.v3 | exact J.v4 | exact J.v5 | exact J.v6 | exact J.l0 | exact J.l1 | exact J.l2 | exact J.l3 | exact J.row (by assumption) | exact J.ops (by assumption) | exact J.job (by assumption)) rfl (by decide) ?_
        rw [b_gs_at]
        refine bq_if_ne (tgt := 57) dX6_isAsked_50 (by decide) (fun c_50 => ?_) (fun z9_ => absurd z9_ (show ¬ nI 2 = 0 by decide))
        refine bq_iconst (v := (nI 0)) dX6_isAsked_57 (by decide) ?_
        exact bq_iret dX6_isAsked_58 rfl (by first | rfl | decide) bq_ret_i
      · rw [show m_ask σ (nI j) b = .inl (4 * j + q) by unfold m_ask; rw [e1]; simp only []; rw [e2]; exact if_neg h1]
        refine bq_aload_n (i := 0) dX6_isAsked_0 rfl ?_
        refine bq_aload_n (i := 0) dX6_isAsked_1 rfl ?_
        refine bq_iload_n (i := 1) dX6_isAsked_2 rfl ?_
        refine bt_callVr (c := 6) (i := 0) dX6_isAsked_3 rfl ml_X6_127 (by first | assumption | exact J.v3 | exact J.v4 | exact J.v5 | exact J.v6 | exact J.l0 | exact J.l1 | exact J.l2 | exact J.l3 | exact J.row (by assumption) | exact J.ops (by assumption) | exact J.job (by assumption)) (by decide) (n_isJob J hN) (by decide) (by decide) (Nat.le_of_ble_eq_true rfl) rfl ?_
        rw [e1]
        refine bq_if_eq (tgt := 25) dX6_isAsked_6 (by decide) (fun z9_ => absurd z9_ (show ¬ m_q (some j) = 0 by show ¬ nI 1 = 0; decide)) (fun c_6 => ?_)
        refine bq_iload_n (i := 2) dX6_isAsked_9 rfl ?_
        refine bq_iconst (v := (nI 0)) dX6_isAsked_10 (by decide) ?_
        refine bq_aload_n (i := 0) dX6_isAsked_11 rfl ?_
        refine bt_get3 (c' := 8) (n := 19) dX6_isAsked_12 fl_X6_28 (by first | assumption | exact J.v3 | exact J.v4 | exact J.v5 | exact J.v6 | exact J.l0 | exact J.l1 | exact J.l2 | exact J.l3 | exact J.row (by assumption) | exact J.ops (by assumption) | exact J.job (by assumption)) ⟨rfl, rfl, rfl⟩ (by decide) ?_
        refine bq_iload_n (i := 1) dX6_isAsked_15 rfl ?_
        refine bt_iald4 (n := 19) (j := j) dX6_isAsked_16 J.a19 rfl (by omega) (by decide) rfl ?_
        rw [g1]
        refine bq_iconst (v := (nI 1)) dX6_isAsked_17 (by decide) ?_
        refine bq_isub dX6_isAsked_18 ?_
        refine bq_callSr dX6_isAsked_19 ml_X6_81 (n_in) (by decide) (by decide) (Nat.le_of_ble_eq_true rfl) rfl ?_
        rw [m_in_ix (by omega), e2]
        refine bq_if_ne (tgt := 29) dX6_isAsked_22 (by decide) (fun c_22 => ?_) (fun z9_ => absurd z9_ (show ¬ m_q (some q) = 0 by show ¬ nI 1 = 0; decide))
        refine bq_aload_n (i := 0) dX6_isAsked_29 rfl ?_
        refine bt_get3 (c' := 8) (n := 20) dX6_isAsked_30 fl_X6_31 (by first | assumption | exact J.v3 | exact J.v4 | exact J.v5 | exact J.v6 | exact J.l0 | exact J.l1 | exact J.l2 | exact J.l3 | exact J.row (by assumption) | exact J.ops (by assumption) | exact J.job (by assumption)) ⟨rfl, rfl, rfl⟩ (by decide) ?_
        refine bq_iload_n (i := 1) dX6_isAsked_33 rfl ?_
        refine bt_zald4 (n := 20) (j := j) dX6_isAsked_34 J.a20 rfl (by omega) (by decide) rfl ?_
        refine bq_if_eq (tgt := 42) dX6_isAsked_35 (by decide) (fun z9_ => absurd z9_ h1) (fun c_35 => ?_)
        refine bq_iconst (v := (nI 0)) dX6_isAsked_38 (by decide) ?_
        refine bq_goto (tgt := 43) dX6_isAsked_39 (by decide) ?_
        refine bt_put0 dX6_isAsked_43 fl_X6_74 (by first | assumption | exact J.v3 | exact J.v4 | exact J.v5 | exact J.v6 | exact J.l0 | exact J.l1 | exact J.l2 | exact J.l3 | exact J.row (by assumption) | exact J.ops (by assumption) | exact J.job (by assumption)) rfl (by decide) (by first | rfl | decide) (by first | rfl | decide) ?_
        refine bq_aload_n (i := 0) dX6_isAsked_46 rfl ?_
        refine bt_get0 dX6_isAsked_47 fl_X6_74 (by first | assumption | exact J.v3 | exact J.v4 | exact J.v5 | exact J.v6 | exact J.l0 | exact J.l1 | exact J.l2 | exact J.l3 | exact J.row (by assumption) | exact J.ops (by assumption) | exact J.job (by assumption)) rfl (by decide) ?_
        rw [b_gs_at]
        refine bq_if_ne (tgt := 57) dX6_isAsked_50 (by decide) (fun z9_ => absurd (show nI 0 = 0 from rfl) z9_) (fun c_50 => ?_)
        refine bq_iconst (v := (nI 1)) dX6_isAsked_53 (by decide) ?_
        refine bq_goto (tgt := 58) dX6_isAsked_54 (by decide) ?_
        exact bq_iret dX6_isAsked_58 rfl (by first | rfl | decide) bq_ret_i
noncomputable def m_stn (σ x : bt_X) (a b : Int32) : m_Rt := match m_ask σ a b with
  | .inr c => (nI 0, σ, m_wS σ (m_thr x (nI c)))
  | .inl p => ((m_wS σ (m_thr x (nI 0))).1 8 29 p, σ, m_wS σ (m_thr x (nI 0)))
set_option maxRecDepth 100000 in
set_option maxHeartbeats 400000 in
theorem n_stn {G : bp_X} {α : bt_A} {σ x : bt_X} {a b : Int32} (J : m_J α) (hN : m_Nn σ) (hK : m_K σ) (hR : m_Rw x) : bq_S G mX6_startNow 4 [.ref (bt_ad α 6 0), .int a, .int b] (bt α σ x) (bq_ret (some (.int (m_stn σ x a b).1)) (bt α (m_stn σ x a b).2.1 (m_stn σ x a b).2.2)) := by
  refine bq_ofW (by decide +kernel) rfl (Nat.le_of_ble_eq_true rfl) ?_
  cases e1 : m_ask σ a b with
  | inr c =>
    rw [show m_stn σ x a b = (nI 0, σ, m_wS σ (m_thr x (nI c))) by unfold m_stn; rw [e1]]
    refine bq_aload_n (i := 0) dX6_startNow_0 rfl ?_
    refine bq_iload_n (i := 1) dX6_startNow_1 rfl ?_
    refine bq_iload_n (i := 2) dX6_startNow_2 rfl ?_
    refine bt_callVr (c := 6) (i := 0) dX6_startNow_3 rfl ml_X6_156 (by first | assumption | exact J.v3 | exact J.v4 | exact J.v5 | exact J.v6 | exact J.l0 | exact J.l1 | exact J.l2 | exact J.l3 | exact J.row (by assumption) | exact J.ops (by assumption) | exact J.job (by assumption)) (by decide) (n_ask J hN) (by decide) (by decide) (Nat.le_of_ble_eq_true rfl) rfl ?_
    rw [e1]
    refine bq_istore_n (i := 3) dX6_startNow_6 (by decide) ?_
    refine bq_aload_n (i := 0) dX6_startNow_7 rfl ?_
    refine bt_callVr (c := 6) (i := 0) dX6_startNow_8 rfl ml_X6_105 (by first | assumption | exact J.v3 | exact J.v4 | exact J.v5 | exact J.v6 | exact J.l0 | exact J.l1 | exact J.l2 | exact J.l3 | exact J.row (by assumption) | exact J.ops (by assumption) | exact J.job (by assumption)) (by decide) (n_works J hN hK hR.thr) (by decide) (by decide) (Nat.le_of_ble_eq_true rfl) rfl ?_
    refine bq_pop dX6_startNow_11 rfl ?_
    refine bq_iload_n (i := 3) dX6_startNow_12 rfl ?_
    refine bq_if_eq (tgt := 29) dX6_startNow_13 (by decide) (fun c_13 => ?_) (fun z9_ => absurd (show nI (m_askv (.inr c)) = 0 from rfl) z9_)
    refine bq_iconst (v := (nI 0)) dX6_startNow_29 (by decide) ?_
    exact bq_iret dX6_startNow_30 rfl (by first | rfl | decide) bq_ret_i
  | inl p =>
    rw [show m_stn σ x a b = ((m_wS σ (m_thr x (nI 0))).1 8 29 p, σ, m_wS σ (m_thr x (nI 0))) by unfold m_stn; rw [e1]]
    obtain ⟨j, q, ea, eb, hj8, -, -, -, ep, hp⟩ := m_ask_l hN e1
    subst ea
    subst eb
    refine bq_aload_n (i := 0) dX6_startNow_0 rfl ?_
    refine bq_iload_n (i := 1) dX6_startNow_1 rfl ?_
    refine bq_iload_n (i := 2) dX6_startNow_2 rfl ?_
    refine bt_callVr (c := 6) (i := 0) dX6_startNow_3 rfl ml_X6_156 (by first | assumption | exact J.v3 | exact J.v4 | exact J.v5 | exact J.v6 | exact J.l0 | exact J.l1 | exact J.l2 | exact J.l3 | exact J.row (by assumption) | exact J.ops (by assumption) | exact J.job (by assumption)) (by decide) (n_ask J hN) (by decide) (by decide) (Nat.le_of_ble_eq_true rfl) rfl ?_
    rw [e1]
    refine bq_istore_n (i := 3) dX6_startNow_6 (by decide) ?_
    refine bq_aload_n (i := 0) dX6_startNow_7 rfl ?_
    refine bt_callVr (c := 6) (i := 0) dX6_startNow_8 rfl ml_X6_105 (by first | assumption | exact J.v3 | exact J.v4 | exact J.v5 | exact J.v6 | exact J.l0 | exact J.l1 | exact J.l2 | exact J.l3 | exact J.row (by assumption) | exact J.ops (by assumption) | exact J.job (by assumption)) (by decide) (n_works J hN hK hR.thr) (by decide) (by decide) (Nat.le_of_ble_eq_true rfl) rfl ?_
    refine bq_pop dX6_startNow_11 rfl ?_
    refine bq_iload_n (i := 3) dX6_startNow_12 rfl ?_
    refine bq_if_eq (tgt := 29) dX6_startNow_13 (by decide) (fun z9_ => absurd z9_ (show ¬ nI (m_askv (.inl p)) = 0 by show ¬ nI 1 = 0; decide)) (fun c_13 => ?_)
    refine bq_aload_n (i := 0) dX6_startNow_16 rfl ?_
    refine bt_get3 (c' := 8) (n := 29) dX6_startNow_17 fl_X6_59 (by first | assumption | exact J.v3 | exact J.v4 | exact J.v5 | exact J.v6 | exact J.l0 | exact J.l1 | exact J.l2 | exact J.l3 | exact J.row (by assumption) | exact J.ops (by assumption) | exact J.job (by assumption)) ⟨rfl, rfl, rfl⟩ (by decide) ?_
    refine bq_iconst (v := (nI 4)) dX6_startNow_20 (by decide) ?_
    refine bq_iload_n (i := 1) dX6_startNow_21 rfl ?_
    refine bq_imul dX6_startNow_22 ?_
    refine bq_iload_n (i := 2) dX6_startNow_23 rfl ?_
    refine bq_iadd dX6_startNow_24 ?_
    refine bt_iald0 (n := 29) (j := p) dX6_startNow_25 J.a29 (by rw [pk_mul, nI_add, ep]) (by omega) (by decide) rfl ?_
    refine bq_goto (tgt := 30) dX6_startNow_26 (by decide) ?_
    exact bq_iret dX6_startNow_30 rfl (by first | rfl | decide) bq_ret_i
set_option maxRecDepth 100000 in
set_option maxHeartbeats 400000 in
theorem n_st {G : bp_X} {α : bt_A} {σ x : bt_X} {a b : Int32} (J : m_J α) (hN : m_Nn σ) (hK : m_K σ) (hR : m_Rw x) : bq_S G mX6_startOf 5 [.ref (bt_ad α 6 0), .int a, .int b] (bt α σ x) (bq_ret (some (.int (m_stn σ x a b).1)) (bt α (m_stn σ x a b).2.1 (m_stn σ x a b).2.2)) := by
  refine bq_ofW (by decide +kernel) rfl (Nat.le_of_ble_eq_true rfl) ?_
  refine bq_aload_n (i := 0) dX6_startOf_0 rfl ?_
  refine bq_iload_n (i := 1) dX6_startOf_1 rfl ?_
  refine bq_iload_n (i := 2) dX6_startOf_2 rfl ?_
  refine bt_callVr (c := 6) (i := 0) dX6_startOf_3 rfl ml_X6_160 (by first | assumption | exact J.v3 | exact J.v4 | exact J.v5 | exact J.v6 | exact J.l0 | exact J.l1 | exact J.l2 | exact J.l3 | exact J.row (by assumption) | exact J.ops (by assumption) | exact J.job (by assumption)) (by decide) (n_stn J hN hK hR) (by decide) (by decide) (Nat.le_of_ble_eq_true rfl) rfl ?_
  exact bq_iret dX6_startOf_6 rfl (by first | rfl | decide) bq_ret_i
set_option maxRecDepth 100000 in
set_option maxHeartbeats 400000 in
theorem n_sbr {G : bp_X} {α : bt_A} {σ x : bt_X} {a b : Int32} (J : m_J α) (hN : m_Nn σ) (hK : m_K σ) (hR : m_Rw x) : bq_S G mX6_startByRounds 5 [.ref (bt_ad α 6 0), .int a, .int b] (bt α σ x) (bq_ret (some (.int (m_stn σ x a b).1)) (bt α (m_stn σ x a b).2.1 (m_stn σ x a b).2.2)) := by
  refine bq_ofW (by decide +kernel) rfl (Nat.le_of_ble_eq_true rfl) ?_
  refine bq_aload_n (i := 0) dX6_startByRounds_0 rfl ?_
  refine bq_iload_n (i := 1) dX6_startByRounds_1 rfl ?_
  refine bq_iload_n (i := 2) dX6_startByRounds_2 rfl ?_
  refine bt_callVr (c := 6) (i := 0) dX6_startByRounds_3 rfl ml_X6_160 (by first | assumption | exact J.v3 | exact J.v4 | exact J.v5 | exact J.v6 | exact J.l0 | exact J.l1 | exact J.l2 | exact J.l3 | exact J.row (by assumption) | exact J.ops (by assumption) | exact J.job (by assumption)) (by decide) (n_stn J hN hK hR) (by decide) (by decide) (Nat.le_of_ble_eq_true rfl) rfl ?_
  exact bq_iret dX6_startByRounds_6 rfl (by first | rfl | decide) bq_ret_i
noncomputable def m_ltn (σ x : bt_X) (j : Nat) : Int32 := m_fin σ (m_wS σ (m_thr x (nI 0))) (4 * j + m_np σ j - 1) - σ.1 8 18 j
noncomputable def m_late (σ x : bt_X) (a : Int32) : m_Rt := match b_ix (m_nj σ) a with
  | none => (nI 0, σ, m_thr x (nI 1))
  | some j => if σ.1 8 20 j = 0 then (nI 0, σ, m_thr x (nI 2)) else ((if m_ltn σ x j ≤ 0 then nI 0 else m_ltn σ x j), σ, m_wS σ (m_thr x (nI 0)))
set_option maxRecDepth 100000 in
set_option maxHeartbeats 400000 in
theorem n_late {G : bp_X} {α : bt_A} {σ x : bt_X} {a : Int32} (J : m_J α) (hN : m_Nn σ) (hK : m_K σ) (hR : m_Rw x) (hP : ∀ j, j < 8 → ¬ σ.1 8 20 j = 0 → m_np σ j ≠ 0) : bq_S G mX6_lateness 4 [.ref (bt_ad α 6 0), .int a] (bt α σ x) (bq_ret (some (.int (m_late σ x a).1)) (bt α (m_late σ x a).2.1 (m_late σ x a).2.2)) := by
  refine bq_ofW (by decide +kernel) rfl (Nat.le_of_ble_eq_true rfl) ?_
  cases e1 : b_ix (m_nj σ) a with
  | none =>
    rw [show m_late σ x a = (nI 0, σ, m_thr x (nI 1)) by unfold m_late; rw [e1]]
    refine bq_aload_n (i := 0) dX6_lateness_0 rfl ?_
    refine bq_aload_n (i := 0) dX6_lateness_1 rfl ?_
    refine bq_iload_n (i := 1) dX6_lateness_2 rfl ?_
    refine bt_callVr (c := 6) (i := 0) dX6_lateness_3 rfl ml_X6_127 (by first | assumption | exact J.v3 | exact J.v4 | exact J.v5 | exact J.v6 | exact J.l0 | exact J.l1 | exact J.l2 | exact J.l3 | exact J.row (by assumption) | exact J.ops (by assumption) | exact J.job (by assumption)) (by decide) (n_isJob J hN) (by decide) (by decide) (Nat.le_of_ble_eq_true rfl) rfl ?_
    rw [e1]
    refine bq_if_ne (tgt := 13) dX6_lateness_6 (by decide) (fun z9_ => absurd (show m_q none = 0 from rfl) z9_) (fun c_6 => ?_)
    refine bq_iconst (v := (nI 1)) dX6_lateness_9 (by decide) ?_
    refine bq_goto (tgt := 27) dX6_lateness_10 (by decide) ?_
    refine bt_put0 dX6_lateness_27 fl_X6_74 (by first | assumption | exact J.v3 | exact J.v4 | exact J.v5 | exact J.v6 | exact J.l0 | exact J.l1 | exact J.l2 | exact J.l3 | exact J.row (by assumption) | exact J.ops (by assumption) | exact J.job (by assumption)) rfl (by decide) (by first | rfl | decide) (by first | rfl | decide) ?_
    refine bq_aload_n (i := 0) dX6_lateness_30 rfl ?_
    refine bt_get0 dX6_lateness_31 fl_X6_74 (by first | assumption | exact J.v3 | exact J.v4 | exact J.v5 | exact J.v6 | exact J.l0 | exact J.l1 | exact J.l2 | exact J.l3 | exact J.row (by assumption) | exact J.ops (by assumption) | exact J.job (by assumption)) rfl (by decide) ?_
    rw [b_gs_at]
    refine bq_if_le (tgt := 39) dX6_lateness_34 (by decide) (fun z9_ => absurd z9_ (show ¬ nI 1 ≤ 0 by decide)) (fun c_34 => ?_)
    refine bq_iconst (v := (nI 0)) dX6_lateness_37 (by decide) ?_
    exact bq_iret dX6_lateness_38 rfl (by first | rfl | decide) bq_ret_i
  | some j =>
    have hb0 : m_nj σ < 9 := by have := hN.2.1.l; exact Nat.lt_of_lt_of_le this (by decide)
    obtain ⟨ea, hmn⟩ := m_ix_e (by omega) e1
    have hj8 := m_nj8 hN hmn
    subst ea
    obtain ⟨g1, g2⟩ := m_np_e hN hj8
    by_cases h1 : σ.1 8 20 j = 0
    · rw [show m_late σ x (nI j) = (nI 0, σ, m_thr x (nI 2)) by unfold m_late; rw [e1]; exact if_pos h1]
      refine bq_aload_n (i := 0) dX6_lateness_0 rfl ?_
      refine bq_aload_n (i := 0) dX6_lateness_1 rfl ?_
      refine bq_iload_n (i := 1) dX6_lateness_2 rfl ?_
      refine bt_callVr (c := 6) (i := 0) dX6_lateness_3 rfl ml_X6_127 (by first | assumption | exact J.v3 | exact J.v4 | exact J.v5 | exact J.v6 | exact J.l0 | exact J.l1 | exact J.l2 | exact J.l3 | exact J.row (by assumption) | exact J.ops (by assumption) | exact J.job (by assumption)) (by decide) (n_isJob J hN) (by decide) (by decide) (Nat.le_of_ble_eq_true rfl) rfl ?_
      rw [e1]
      refine bq_if_ne (tgt := 13) dX6_lateness_6 (by decide) (fun c_6 => ?_) (fun z9_ => absurd z9_ (show ¬ m_q (some j) = 0 by show ¬ nI 1 = 0; decide))
      refine bq_aload_n (i := 0) dX6_lateness_13 rfl ?_
      refine bt_get3 (c' := 8) (n := 20) dX6_lateness_14 fl_X6_31 (by first | assumption | exact J.v3 | exact J.v4 | exact J.v5 | exact J.v6 | exact J.l0 | exact J.l1 | exact J.l2 | exact J.l3 | exact J.row (by assumption) | exact J.ops (by assumption) | exact J.job (by assumption)) ⟨rfl, rfl, rfl⟩ (by decide) ?_
      refine bq_iload_n (i := 1) dX6_lateness_17 rfl ?_
      refine bt_zald4 (n := 20) (j := j) dX6_lateness_18 J.a20 rfl (by omega) (by decide) rfl ?_
      refine bq_if_eq (tgt := 26) dX6_lateness_19 (by decide) (fun c_19 => ?_) (fun z9_ => absurd h1 z9_)
      refine bq_iconst (v := (nI 2)) dX6_lateness_26 (by decide) ?_
      refine bt_put0 dX6_lateness_27 fl_X6_74 (by first | assumption | exact J.v3 | exact J.v4 | exact J.v5 | exact J.v6 | exact J.l0 | exact J.l1 | exact J.l2 | exact J.l3 | exact J.row (by assumption) | exact J.ops (by assumption) | exact J.job (by assumption)) rfl (by decide) (by first | rfl | decide) (by first | rfl | decide) ?_
      refine bq_aload_n (i := 0) dX6_lateness_30 rfl ?_
      refine bt_get0 dX6_lateness_31 fl_X6_74 (by first | assumption | exact J.v3 | exact J.v4 | exact J.v5 | exact J.v6 | exact J.l0 | exact J.l1 | exact J.l2 | exact J.l3 | exact J.row (by assumption) | exact J.ops (by assumption) | exact J.job (by assumption)) rfl (by decide) ?_
      rw [b_gs_at]
      refine bq_if_le (tgt := 39) dX6_lateness_34 (by decide) (fun z9_ => absurd z9_ (show ¬ nI 2 ≤ 0 by decide)) (fun c_34 => ?_)
      refine bq_iconst (v := (nI 0)) dX6_lateness_37 (by decide) ?_
      exact bq_iret dX6_lateness_38 rfl (by first | rfl | decide) bq_ret_i
    · rw [show m_late σ x (nI j) = ((if m_ltn σ x j ≤ 0 then nI 0 else m_ltn σ x j), σ, m_wS σ (m_thr x (nI 0))) by unfold m_late; rw [e1]; exact if_neg h1]
      have hnp := hP j hj8 h1
      refine bq_aload_n (i := 0) dX6_lateness_0 rfl ?_
      refine bq_aload_n (i := 0) dX6_lateness_1 rfl ?_
      refine bq_iload_n (i := 1) dX6_lateness_2 rfl ?_
      refine bt_callVr (c := 6) (i := 0) dX6_lateness_3 rfl ml_X6_127 (by first | assumption | exact J.v3 | exact J.v4 | exact J.v5 | exact J.v6 | exact J.l0 | exact J.l1 | exact J.l2 | exact J.l3 | exact J.row (by assumption) | exact J.ops (by assumption) | exact J.job (by assumption)) (by decide) (n_isJob J hN) (by decide) (by decide) (Nat.le_of_ble_eq_true rfl) rfl ?_
      rw [e1]
      refine bq_if_ne (tgt := 13) dX6_lateness_6 (by decide) (fun c_6 => ?_) (fun z9_ => absurd z9_ (show ¬ m_q (some j) = 0 by show ¬ nI 1 = 0; decide))
      refine bq_aload_n (i := 0) dX6_lateness_13 rfl ?_
      refine bt_get3 (c' := 8) (n := 20) dX6_lateness_14 fl_X6_31 (by first | assumption | exact J.v3 | exact J.v4 | exact J.v5 | exact J.v6 | exact J.l0 | exact J.l1 | exact J.l2 | exact J.l3 | exact J.row (by assumption) | exact J.ops (by assumption) | exact J.job (by assumption)) ⟨rfl, rfl, rfl⟩ (by decide) ?_
      refine bq_iload_n (i := 1) dX6_lateness_17 rfl ?_
      refine bt_zald4 (n := 20) (j := j) dX6_lateness_18 J.a20 rfl (by omega) (by decide) rfl ?_
      refine bq_if_eq (tgt := 26) dX6_lateness_19 (by decide) (fun z9_ => absurd z9_ h1) (fun c_19 => ?_)
      refine bq_iconst (v := (nI 0)) dX6_lateness_22 (by decide) ?_
      refine bq_goto (tgt := 27) dX6_lateness_23 (by decide) ?_
      refine bt_put0 dX6_lateness_27 fl_X6_74 (by first | assumption | exact J.v3 | exact J.v4 | exact J.v5 | exact J.v6 | exact J.l0 | exact J.l1 | exact J.l2 | exact J.l3 | exact J.row (by assumption) | exact J.ops (by assumption) | exact J.job (by assumption)) rfl (by decide) (by first | rfl | decide) (by first | rfl | decide) ?_
      refine bq_aload_n (i := 0) dX6_lateness_30 rfl ?_
      refine bt_get0 dX6_lateness_31 fl_X6_74 (by first | assumption | exact J.v3 | exact J.v4 | exact J.v5 | exact J.v6 | exact J.l0 | exact J.l1 | exact J.l2 | exact J.l3 | exact J.row (by assumption) | exact J.ops (by assumption) | exact J.job (by assumption)) rfl (by decide) ?_
      rw [b_gs_at]
      refine bq_if_le (tgt := 39) dX6_lateness_34 (by decide) (fun c_34 => ?_) (fun z9_ => absurd (show nI 0 ≤ 0 by decide) z9_)
      refine bq_aload_n (i := 0) dX6_lateness_39 rfl ?_
      refine bt_callVr (c := 6) (i := 0) dX6_lateness_40 rfl ml_X6_105 (by first | assumption | exact J.v3 | exact J.v4 | exact J.v5 | exact J.v6 | exact J.l0 | exact J.l1 | exact J.l2 | exact J.l3 | exact J.row (by assumption) | exact J.ops (by assumption) | exact J.job (by assumption)) (by decide) (n_works J hN hK hR.thr) (by decide) (by decide) (Nat.le_of_ble_eq_true rfl) rfl ?_
      refine bq_pop dX6_lateness_43 rfl ?_
      refine bq_aload_n (i := 0) dX6_lateness_44 rfl ?_
      refine bq_iconst (v := (nI 4)) dX6_lateness_45 (by decide) ?_
      refine bq_iload_n (i := 1) dX6_lateness_46 rfl ?_
      refine bq_imul dX6_lateness_47 ?_
      refine bq_aload_n (i := 0) dX6_lateness_48 rfl ?_
      refine bt_get3 (c' := 8) (n := 19) dX6_lateness_49 fl_X6_28 (by first | assumption | exact J.v3 | exact J.v4 | exact J.v5 | exact J.v6 | exact J.l0 | exact J.l1 | exact J.l2 | exact J.l3 | exact J.row (by assumption) | exact J.ops (by assumption) | exact J.job (by assumption)) ⟨rfl, rfl, rfl⟩ (by decide) ?_
      refine bq_iload_n (i := 1) dX6_lateness_52 rfl ?_
      refine bt_iald4 (n := 19) (j := j) dX6_lateness_53 J.a19 rfl (by omega) (by decide) rfl ?_
      rw [g1]
      refine bq_iadd dX6_lateness_54 ?_
      refine bq_iconst (v := (nI 1)) dX6_lateness_55 (by decide) ?_
      refine bq_isub dX6_lateness_56 ?_
      rw [pk_mul, nI_add, pk_sub (by omega)]
      refine bt_callVr (c := 6) (i := 0) dX6_lateness_57 rfl ml_X6_92 (by first | assumption | exact J.v3 | exact J.v4 | exact J.v5 | exact J.v6 | exact J.l0 | exact J.l1 | exact J.l2 | exact J.l3 | exact J.row (by assumption) | exact J.ops (by assumption) | exact J.job (by assumption)) (by decide) (n_finish J (by omega)) (by decide) (by decide) (Nat.le_of_ble_eq_true rfl) rfl ?_
      refine bq_aload_n (i := 0) dX6_lateness_60 rfl ?_
      refine bt_get3 (c' := 8) (n := 18) dX6_lateness_61 fl_X6_25 (by first | assumption | exact J.v3 | exact J.v4 | exact J.v5 | exact J.v6 | exact J.l0 | exact J.l1 | exact J.l2 | exact J.l3 | exact J.row (by assumption) | exact J.ops (by assumption) | exact J.job (by assumption)) ⟨rfl, rfl, rfl⟩ (by decide) ?_
      refine bq_iload_n (i := 1) dX6_lateness_64 rfl ?_
      refine bt_iald4 (n := 18) (j := j) dX6_lateness_65 J.a18 rfl (by omega) (by decide) rfl ?_
      refine bq_isub dX6_lateness_66 ?_
      refine bq_istore_n (i := 2) dX6_lateness_67 (by decide) ?_
      refine bq_iload_n (i := 2) dX6_lateness_68 rfl ?_
      refine bq_if_le (tgt := 76) dX6_lateness_69 (by decide) (fun c_69 => ?_) (fun c_69 => ?_)
      · rw [if_pos (show m_ltn σ x j ≤ 0 from c_69)]
        refine bq_iconst (v := (nI 0)) dX6_lateness_76 (by decide) ?_
        exact bq_iret dX6_lateness_77 rfl (by first | rfl | decide) bq_ret_i
      · rw [if_neg (show ¬ m_ltn σ x j ≤ 0 from c_69)]
        refine bq_iload_n (i := 2) dX6_lateness_72 rfl ?_
        refine bq_goto (tgt := 77) dX6_lateness_73 (by decide) ?_
        exact bq_iret dX6_lateness_77 rfl (by first | rfl | decide) bq_ret_i
noncomputable def m_spanF (σ x : bt_X) : m_Rt := (m_spanOf σ (m_thr x (nI 0)), σ, m_wS σ (m_thr x (nI 0)))
noncomputable def m_slk (σ x : bt_X) (a b : Int32) : m_Rt := match m_ask σ a b with
  | .inr c => (nI 0, σ, m_thr x (nI c))
  | .inl p => ((m_back σ (m_thr x (nI 0))).1 8 30 p - (m_back σ (m_thr x (nI 0))).1 8 29 p, σ, m_back σ (m_thr x (nI 0)))
set_option maxRecDepth 100000 in
set_option maxHeartbeats 400000 in
theorem n_spanF {G : bp_X} {α : bt_A} {σ x : bt_X} (J : m_J α) (hN : m_Nn σ) (hK : m_K σ) (hR : m_Rw x) : bq_S G mX6_span 5 [.ref (bt_ad α 6 0)] (bt α σ x) (bq_ret (some (.int (m_spanF σ x).1)) (bt α (m_spanF σ x).2.1 (m_spanF σ x).2.2)) := by
  refine bq_ofW (by decide +kernel) rfl (Nat.le_of_ble_eq_true rfl) ?_
  refine bq_aload_n (i := 0) dX6_span_0 rfl ?_
  refine bq_iconst (v := (nI 0)) dX6_span_1 (by decide) ?_
  refine bt_put0 dX6_span_2 fl_X6_74 (by first | assumption | exact J.v3 | exact J.v4 | exact J.v5 | exact J.v6 | exact J.l0 | exact J.l1 | exact J.l2 | exact J.l3 | exact J.row (by assumption) | exact J.ops (by assumption) | exact J.job (by assumption)) rfl (by decide) (by first | rfl | decide) (by first | rfl | decide) ?_
  refine bq_aload_n (i := 0) dX6_span_5 rfl ?_
  refine bt_callVr (c := 6) (i := 0) dX6_span_6 rfl ml_X6_113 (by first | assumption | exact J.v3 | exact J.v4 | exact J.v5 | exact J.v6 | exact J.l0 | exact J.l1 | exact J.l2 | exact J.l3 | exact J.row (by assumption) | exact J.ops (by assumption) | exact J.job (by assumption)) (by decide) (n_spanOf J hN hK hR.thr) (by decide) (by decide) (Nat.le_of_ble_eq_true rfl) rfl ?_
  exact bq_iret dX6_span_9 rfl (by first | rfl | decide) bq_ret_i
set_option maxRecDepth 100000 in
set_option maxHeartbeats 400000 in
theorem n_slk {G : bp_X} {α : bt_A} {σ x : bt_X} {a b : Int32} (J : m_J α) (hN : m_Nn σ) (hK : m_K σ) (hR : m_Rw x) : bq_S G mX6_slack 6 [.ref (bt_ad α 6 0), .int a, .int b] (bt α σ x) (bq_ret (some (.int (m_slk σ x a b).1)) (bt α (m_slk σ x a b).2.1 (m_slk σ x a b).2.2)) := by
  refine bq_ofW (by decide +kernel) rfl (Nat.le_of_ble_eq_true rfl) ?_
  cases e1 : m_ask σ a b with
  | inr c =>
    rw [show m_slk σ x a b = (nI 0, σ, m_thr x (nI c)) by unfold m_slk; rw [e1]]
    refine bq_aload_n (i := 0) dX6_slack_0 rfl ?_
    refine bq_iload_n (i := 1) dX6_slack_1 rfl ?_
    refine bq_iload_n (i := 2) dX6_slack_2 rfl ?_
    refine bt_callVr (c := 6) (i := 0) dX6_slack_3 rfl ml_X6_156 (by first | assumption | exact J.v3 | exact J.v4 | exact J.v5 | exact J.v6 | exact J.l0 | exact J.l1 | exact J.l2 | exact J.l3 | exact J.row (by assumption) | exact J.ops (by assumption) | exact J.job (by assumption)) (by decide) (n_ask J hN) (by decide) (by decide) (Nat.le_of_ble_eq_true rfl) rfl ?_
    rw [e1]
    refine bq_if_ne (tgt := 11) dX6_slack_6 (by decide) (fun z9_ => absurd (show nI (m_askv (.inr c)) = 0 from rfl) z9_) (fun c_6 => ?_)
    refine bq_iconst (v := (nI 0)) dX6_slack_9 (by decide) ?_
    exact bq_iret dX6_slack_10 rfl (by first | rfl | decide) bq_ret_i
  | inl p =>
    rw [show m_slk σ x a b = ((m_back σ (m_thr x (nI 0))).1 8 30 p - (m_back σ (m_thr x (nI 0))).1 8 29 p, σ, m_back σ (m_thr x (nI 0))) by unfold m_slk; rw [e1]]
    obtain ⟨j, q, ea, eb, hj8, -, -, -, ep, hp⟩ := m_ask_l hN e1
    subst ea
    subst eb
    refine bq_aload_n (i := 0) dX6_slack_0 rfl ?_
    refine bq_iload_n (i := 1) dX6_slack_1 rfl ?_
    refine bq_iload_n (i := 2) dX6_slack_2 rfl ?_
    refine bt_callVr (c := 6) (i := 0) dX6_slack_3 rfl ml_X6_156 (by first | assumption | exact J.v3 | exact J.v4 | exact J.v5 | exact J.v6 | exact J.l0 | exact J.l1 | exact J.l2 | exact J.l3 | exact J.row (by assumption) | exact J.ops (by assumption) | exact J.job (by assumption)) (by decide) (n_ask J hN) (by decide) (by decide) (Nat.le_of_ble_eq_true rfl) rfl ?_
    rw [e1]
    refine bq_if_ne (tgt := 11) dX6_slack_6 (by decide) (fun c_6 => ?_) (fun z9_ => absurd z9_ (show ¬ nI (m_askv (.inl p)) = 0 by show ¬ nI 1 = 0; decide))
    refine bq_aload_n (i := 0) dX6_slack_11 rfl ?_
    refine bt_callVr (c := 6) (i := 0) dX6_slack_12 rfl ml_X6_163 (by first | assumption | exact J.v3 | exact J.v4 | exact J.v5 | exact J.v6 | exact J.l0 | exact J.l1 | exact J.l2 | exact J.l3 | exact J.row (by assumption) | exact J.ops (by assumption) | exact J.job (by assumption)) (by decide) (n_back J hN hK hR.thr) (by decide) (by decide) (Nat.le_of_ble_eq_true rfl) rfl ?_
    refine bq_aload_n (i := 0) dX6_slack_15 rfl ?_
    refine bt_get3 (c' := 8) (n := 30) dX6_slack_16 fl_X6_62 (by first | assumption | exact J.v3 | exact J.v4 | exact J.v5 | exact J.v6 | exact J.l0 | exact J.l1 | exact J.l2 | exact J.l3 | exact J.row (by assumption) | exact J.ops (by assumption) | exact J.job (by assumption)) ⟨rfl, rfl, rfl⟩ (by decide) ?_
    refine bq_iconst (v := (nI 4)) dX6_slack_19 (by decide) ?_
    refine bq_iload_n (i := 1) dX6_slack_20 rfl ?_
    refine bq_imul dX6_slack_21 ?_
    refine bq_iload_n (i := 2) dX6_slack_22 rfl ?_
    refine bq_iadd dX6_slack_23 ?_
    refine bt_iald0 (n := 30) (j := p) dX6_slack_24 J.a30 (by rw [pk_mul, nI_add, ep]) (by omega) (by decide) rfl ?_
    refine bq_aload_n (i := 0) dX6_slack_25 rfl ?_
    refine bt_get3 (c' := 8) (n := 29) dX6_slack_26 fl_X6_59 (by first | assumption | exact J.v3 | exact J.v4 | exact J.v5 | exact J.v6 | exact J.l0 | exact J.l1 | exact J.l2 | exact J.l3 | exact J.row (by assumption) | exact J.ops (by assumption) | exact J.job (by assumption)) ⟨rfl, rfl, rfl⟩ (by decide) ?_
    refine bq_iconst (v := (nI 4)) dX6_slack_29 (by decide) ?_
    refine bq_iload_n (i := 1) dX6_slack_30 rfl ?_
    refine bq_imul dX6_slack_31 ?_
    refine bq_iload_n (i := 2) dX6_slack_32 rfl ?_
    refine bq_iadd dX6_slack_33 ?_
    refine bt_iald0 (n := 29) (j := p) dX6_slack_34 J.a29 (by rw [pk_mul, nI_add, ep]) (by omega) (by decide) rfl ?_
    refine bq_isub dX6_slack_35 ?_
    exact bq_iret dX6_slack_36 rfl (by first | rfl | decide) bq_ret_i
theorem m_pst_k : ∀ (l : List Nat) (k : Nat) (x : bt_X), x.1 6 0 21 = nI k → (m_pst l k x).1 6 0 21 = nI (k + l.length) := by
  intro l
  induction l with
  | nil => intro k x h; exact h
  | cons q l ih =>
    intro k x h
    unfold m_pst
    rw [ih (k + 1) _ b_gs_at]
    congr 1
    rw [List.length_cons]
    omega
theorem m_pst_a : ∀ (l : List Nat) (k : Nat) (x : bt_X) (i : Nat), (m_pst l k x).1 8 32 i = if k ≤ i then (match l[i - k]? with | some q => nI q | none => x.1 8 32 i) else x.1 8 32 i := by
  intro l
  induction l with
  | nil => intro k x i; unfold m_pst; split <;> rfl
  | cons q l ih =>
    intro k x i
    unfold m_pst
    rw [ih, b_gs_ne (by omega)]
    by_cases c : k + 1 ≤ i
    · rw [if_pos c, if_pos (by omega), show i - k = (i - (k + 1)) + 1 by omega, List.getElem?_cons_succ, b_gs_ne (by omega)]
    · rw [if_neg c]
      by_cases e : i = k
      · subst e
        rw [b_gs_at, if_pos (Nat.le_refl _), Nat.sub_self]
        rfl
      · rw [b_gs_ne (by omega), if_neg (by omega)]
theorem m_pl_len {σ x : bt_X} : ∀ (n : Nat) (i : Option Nat), (m_pl σ x n i).length ≤ n := by
  intro n
  induction n with
  | zero => intro i; cases i <;> exact Nat.le_refl _
  | succ n ih =>
    intro i
    cases i with
    | none => exact Nat.zero_le _
    | some q => exact Nat.succ_le_succ (ih _)
theorem m_pl_32 {σ x : bt_X} (hL : m_L x) : ∀ (n : Nat) (i : Option Nat), (∀ q, i = some q → q < 32) → ∀ q ∈ m_pl σ x n i, q < 32 := by
  intro n
  induction n with
  | zero =>
    intro i _ q hq
    cases i <;> exact absurd hq List.not_mem_nil
  | succ n ih =>
    intro i hi q hq
    cases i with
    | none => exact absurd hq List.not_mem_nil
    | some u =>
      rcases List.mem_cons.mp hq with rfl | hq
      · exact hi _ rfl
      · exact ih _ (fun v hv => m_nxt_l hL (hi u rfl) hv) q hq
theorem m_walks_k {σ x : bt_X} : (m_walks σ x).1 6 0 21 = nI (m_plist σ x).length := by
  unfold m_walks
  rw [m_pst_k _ 0 _ b_gs_at, Nat.zero_add]
theorem m_walks_a {σ x : bt_X} {i q : Nat} (h : (m_plist σ x)[i]? = some q) : (m_walks σ x).1 8 32 i = nI q := by
  unfold m_walks
  rw [m_pst_a, if_pos (Nat.zero_le _), Nat.sub_zero, h]
noncomputable def m_crit (σ x : bt_X) : m_Rt := (nI (m_plist σ (m_thr x (nI 0))).length, σ, m_walks σ (m_thr x (nI 0)))
noncomputable def m_crAt (σ x : bt_X) (p : Int32) : m_Rt := match b_ix (m_plist σ x).length p with
  | none => (nI 0, σ, m_thr (m_walks σ x) (nI 1))
  | some i => (m_code ((m_plist σ x).getD ((m_plist σ x).length - 1 - i) 0), σ, m_thr (m_walks σ x) (nI 0))
theorem m_plist_len {σ x : bt_X} : (m_plist σ x).length ≤ 32 := by
  have := m_pl_len (σ := σ) (x := m_wS σ x) m_32 (m_last σ x)
  rw [m_32_e] at this
  unfold m_plist
  rw [m_32_e]
  exact this
set_option maxRecDepth 100000 in
set_option maxHeartbeats 400000 in
theorem n_crit {G : bp_X} {α : bt_A} {σ x : bt_X} (J : m_J α) (hN : m_Nn σ) (hK : m_K σ) (hR : m_Rw x) (hT : m_Trm σ (m_thr x (nI 0))) : bq_S G mX6_criticals 6 [.ref (bt_ad α 6 0)] (bt α σ x) (bq_ret (some (.int (m_crit σ x).1)) (bt α (m_crit σ x).2.1 (m_crit σ x).2.2)) := by
  refine bq_ofW (by decide +kernel) rfl (Nat.le_of_ble_eq_true rfl) ?_
  refine bq_aload_n (i := 0) dX6_criticals_0 rfl ?_
  refine bq_iconst (v := (nI 0)) dX6_criticals_1 (by decide) ?_
  refine bt_put0 dX6_criticals_2 fl_X6_74 (by first | assumption | exact J.v3 | exact J.v4 | exact J.v5 | exact J.v6 | exact J.l0 | exact J.l1 | exact J.l2 | exact J.l3 | exact J.row (by assumption) | exact J.ops (by assumption) | exact J.job (by assumption)) rfl (by decide) (by first | rfl | decide) (by first | rfl | decide) ?_
  refine bq_aload_n (i := 0) dX6_criticals_5 rfl ?_
  refine bt_callVr (c := 6) (i := 0) dX6_criticals_6 rfl ml_X6_169 (by first | assumption | exact J.v3 | exact J.v4 | exact J.v5 | exact J.v6 | exact J.l0 | exact J.l1 | exact J.l2 | exact J.l3 | exact J.row (by assumption) | exact J.ops (by assumption) | exact J.job (by assumption)) (by decide) (n_walks J hN hK hR.thr hT) (by decide) (by decide) (Nat.le_of_ble_eq_true rfl) rfl ?_
  refine bq_aload_n (i := 0) dX6_criticals_9 rfl ?_
  refine bt_get0 dX6_criticals_10 fl_X6_166 (by first | assumption | exact J.v3 | exact J.v4 | exact J.v5 | exact J.v6 | exact J.l0 | exact J.l1 | exact J.l2 | exact J.l3 | exact J.row (by assumption) | exact J.ops (by assumption) | exact J.job (by assumption)) rfl (by decide) ?_
  rw [m_walks_k]
  exact bq_iret dX6_criticals_13 rfl (by first | rfl | decide) bq_ret_i
set_option maxRecDepth 100000 in
set_option maxHeartbeats 400000 in
theorem n_crAt {G : bp_X} {α : bt_A} {σ x : bt_X} {p : Int32} (J : m_J α) (hN : m_Nn σ) (hK : m_K σ) (hR : m_Rw x) (hT : m_Trm σ x) : bq_S G mX6_criticalAt 6 [.ref (bt_ad α 6 0), .int p] (bt α σ x) (bq_ret (some (.int (m_crAt σ x p).1)) (bt α (m_crAt σ x p).2.1 (m_crAt σ x p).2.2)) := by
  refine bq_ofW (by decide +kernel) rfl (Nat.le_of_ble_eq_true rfl) ?_
  have hlen := m_plist_len (σ := σ) (x := x)
  cases e1 : b_ix (m_plist σ x).length p with
  | none =>
    rw [show m_crAt σ x p = (nI 0, σ, m_thr (m_walks σ x) (nI 1)) by unfold m_crAt; rw [e1]]
    refine bq_aload_n (i := 0) dX6_criticalAt_0 rfl ?_
    refine bt_callVr (c := 6) (i := 0) dX6_criticalAt_1 rfl ml_X6_169 (by first | assumption | exact J.v3 | exact J.v4 | exact J.v5 | exact J.v6 | exact J.l0 | exact J.l1 | exact J.l2 | exact J.l3 | exact J.row (by assumption) | exact J.ops (by assumption) | exact J.job (by assumption)) (by decide) (n_walks J hN hK hR hT) (by decide) (by decide) (Nat.le_of_ble_eq_true rfl) rfl ?_
    refine bq_aload_n (i := 0) dX6_criticalAt_4 rfl ?_
    refine bq_iload_n (i := 1) dX6_criticalAt_5 rfl ?_
    refine bq_iconst (v := (nI 0)) dX6_criticalAt_6 (by decide) ?_
    refine bq_aload_n (i := 0) dX6_criticalAt_7 rfl ?_
    refine bt_get0 dX6_criticalAt_8 fl_X6_166 (by first | assumption | exact J.v3 | exact J.v4 | exact J.v5 | exact J.v6 | exact J.l0 | exact J.l1 | exact J.l2 | exact J.l3 | exact J.row (by assumption) | exact J.ops (by assumption) | exact J.job (by assumption)) rfl (by decide) ?_
    rw [m_walks_k]
    refine bq_iconst (v := (nI 1)) dX6_criticalAt_11 (by decide) ?_
    refine bq_isub dX6_criticalAt_12 ?_
    refine bq_callSr dX6_criticalAt_13 ml_X6_81 (n_in) (by decide) (by decide) (Nat.le_of_ble_eq_true rfl) rfl ?_
    rw [m_in_ix (by omega), e1]
    refine bq_if_eq (tgt := 23) dX6_criticalAt_16 (by decide) (fun c_16 => ?_) (fun z9_ => absurd (show m_q none = 0 from rfl) z9_)
    refine bq_iconst (v := (nI 1)) dX6_criticalAt_23 (by decide) ?_
    refine bt_put0 dX6_criticalAt_24 fl_X6_74 (by first | assumption | exact J.v3 | exact J.v4 | exact J.v5 | exact J.v6 | exact J.l0 | exact J.l1 | exact J.l2 | exact J.l3 | exact J.row (by assumption) | exact J.ops (by assumption) | exact J.job (by assumption)) rfl (by decide) (by first | rfl | decide) (by first | rfl | decide) ?_
    refine bq_aload_n (i := 0) dX6_criticalAt_27 rfl ?_
    refine bt_get0 dX6_criticalAt_28 fl_X6_74 (by first | assumption | exact J.v3 | exact J.v4 | exact J.v5 | exact J.v6 | exact J.l0 | exact J.l1 | exact J.l2 | exact J.l3 | exact J.row (by assumption) | exact J.ops (by assumption) | exact J.job (by assumption)) rfl (by decide) ?_
    rw [b_gs_at]
    refine bq_if_le (tgt := 38) dX6_criticalAt_31 (by decide) (fun z9_ => absurd z9_ (show ¬ nI 1 ≤ 0 by decide)) (fun c_31 => ?_)
    refine bq_iconst (v := (nI 0)) dX6_criticalAt_34 (by decide) ?_
    refine bq_goto (tgt := 54) dX6_criticalAt_35 (by decide) ?_
    exact bq_iret dX6_criticalAt_54 rfl (by first | rfl | decide) bq_ret_i
  | some i =>
    rw [show m_crAt σ x p = (m_code ((m_plist σ x).getD ((m_plist σ x).length - 1 - i) 0), σ, m_thr (m_walks σ x) (nI 0)) by unfold m_crAt; rw [e1]]
    obtain ⟨ep, hi⟩ := m_ix_e (by omega) e1
    have hg := b_getD (L := m_plist σ x) (show (m_plist σ x).length - 1 - i < (m_plist σ x).length by omega)
    have hq : (m_plist σ x).getD ((m_plist σ x).length - 1 - i) 0 < 32 := m_pl_32 (m_works_L hN hR) m_32 (m_last σ x) (fun q h => m_lst_l m_32 none (Nat.le_of_eq m_32_e) (fun q h => by cases h) q h) _ (List.mem_of_getElem? hg)
    have ha := m_walks_a hg
    generalize (m_plist σ x).getD ((m_plist σ x).length - 1 - i) 0 = q at hg hq ha ⊢
    subst ep
    refine bq_aload_n (i := 0) dX6_criticalAt_0 rfl ?_
    refine bt_callVr (c := 6) (i := 0) dX6_criticalAt_1 rfl ml_X6_169 (by first | assumption | exact J.v3 | exact J.v4 | exact J.v5 | exact J.v6 | exact J.l0 | exact J.l1 | exact J.l2 | exact J.l3 | exact J.row (by assumption) | exact J.ops (by assumption) | exact J.job (by assumption)) (by decide) (n_walks J hN hK hR hT) (by decide) (by decide) (Nat.le_of_ble_eq_true rfl) rfl ?_
    refine bq_aload_n (i := 0) dX6_criticalAt_4 rfl ?_
    refine bq_iload_n (i := 1) dX6_criticalAt_5 rfl ?_
    refine bq_iconst (v := (nI 0)) dX6_criticalAt_6 (by decide) ?_
    refine bq_aload_n (i := 0) dX6_criticalAt_7 rfl ?_
    refine bt_get0 dX6_criticalAt_8 fl_X6_166 (by first | assumption | exact J.v3 | exact J.v4 | exact J.v5 | exact J.v6 | exact J.l0 | exact J.l1 | exact J.l2 | exact J.l3 | exact J.row (by assumption) | exact J.ops (by assumption) | exact J.job (by assumption)) rfl (by decide) ?_
    rw [m_walks_k]
    refine bq_iconst (v := (nI 1)) dX6_criticalAt_11 (by decide) ?_
    refine bq_isub dX6_criticalAt_12 ?_
    refine bq_callSr dX6_criticalAt_13 ml_X6_81 (n_in) (by decide) (by decide) (Nat.le_of_ble_eq_true rfl) rfl ?_
    rw [m_in_ix (by omega), e1]
    refine bq_if_eq (tgt := 23) dX6_criticalAt_16 (by decide) (fun z9_ => absurd z9_ (show ¬ m_q (some i) = 0 by show ¬ nI 1 = 0; decide)) (fun c_16 => ?_)
    refine bq_iconst (v := (nI 0)) dX6_criticalAt_19 (by decide) ?_
    refine bq_goto (tgt := 24) dX6_criticalAt_20 (by decide) ?_
    refine bt_put0 dX6_criticalAt_24 fl_X6_74 (by first | assumption | exact J.v3 | exact J.v4 | exact J.v5 | exact J.v6 | exact J.l0 | exact J.l1 | exact J.l2 | exact J.l3 | exact J.row (by assumption) | exact J.ops (by assumption) | exact J.job (by assumption)) rfl (by decide) (by first | rfl | decide) (by first | rfl | decide) ?_
    refine bq_aload_n (i := 0) dX6_criticalAt_27 rfl ?_
    refine bt_get0 dX6_criticalAt_28 fl_X6_74 (by first | assumption | exact J.v3 | exact J.v4 | exact J.v5 | exact J.v6 | exact J.l0 | exact J.l1 | exact J.l2 | exact J.l3 | exact J.row (by assumption) | exact J.ops (by assumption) | exact J.job (by assumption)) rfl (by decide) ?_
    rw [b_gs_at]
    refine bq_if_le (tgt := 38) dX6_criticalAt_31 (by decide) (fun c_31 => ?_) (fun z9_ => absurd (show nI 0 ≤ 0 by decide) z9_)
    refine bq_aload_n (i := 0) dX6_criticalAt_38 rfl ?_
    refine bt_get3 (c' := 8) (n := 32) dX6_criticalAt_39 fl_X6_65 (by first | assumption | exact J.v3 | exact J.v4 | exact J.v5 | exact J.v6 | exact J.l0 | exact J.l1 | exact J.l2 | exact J.l3 | exact J.row (by assumption) | exact J.ops (by assumption) | exact J.job (by assumption)) ⟨rfl, rfl, rfl⟩ (by decide) ?_
    refine bq_aload_n (i := 0) dX6_criticalAt_42 rfl ?_
    refine bt_get0 dX6_criticalAt_43 fl_X6_166 (by first | assumption | exact J.v3 | exact J.v4 | exact J.v5 | exact J.v6 | exact J.l0 | exact J.l1 | exact J.l2 | exact J.l3 | exact J.row (by assumption) | exact J.ops (by assumption) | exact J.job (by assumption)) rfl (by decide) ?_
    rw [b_gs_ne (by omega), m_walks_k]
    refine bq_iconst (v := (nI 1)) dX6_criticalAt_46 (by decide) ?_
    refine bq_isub dX6_criticalAt_47 ?_
    rw [pk_sub (by omega)]
    refine bq_iload_n (i := 1) dX6_criticalAt_48 rfl ?_
    refine bq_isub dX6_criticalAt_49 ?_
    rw [pk_sub (by omega)]
    refine bt_iald0 (n := 32) (j := ((m_plist σ x).length - 1 - i)) dX6_criticalAt_50 J.a32 rfl (by omega) (by decide) rfl ?_
    rw [b_gs_ne (by omega), ha]
    refine bq_callSr dX6_criticalAt_51 ml_X6_153 (n_code hq) (by decide) (by decide) (Nat.le_of_ble_eq_true rfl) rfl ?_
    exact bq_iret dX6_criticalAt_54 rfl (by first | rfl | decide) bq_ret_i
