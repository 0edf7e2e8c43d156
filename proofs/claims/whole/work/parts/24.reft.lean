/-! ===== the reference: starts ===== -/
theorem m_in_1 {q n : Nat} (h : q ≤ n) (hn : n < 2 ^ 31) : m_in (nI q) (nI 0) (nI n) = nI 1 := by
  unfold m_in
  rw [if_neg (show ¬ nI q < nI 0 from nI_pos (by omega)), if_neg (nI_nlt h (by omega))]
theorem m_in_0 {q n : Nat} (h : n < q) (hn : q < 2 ^ 31) : m_in (nI q) (nI 0) (nI n) = nI 0 := by
  unfold m_in
  rw [if_neg (show ¬ nI q < nI 0 from nI_pos hn), if_pos (nI_lt h (by omega))]
def m_bef (x : bt_X) (p : Nat) : Option Nat := if p % 4 = 0 then none else if x.1 8 26 (p - 1) = 0 then none else some (p - 1)
def m_aft (x : bt_X) (p : Nat) : Option Nat := if (p + 1) % 4 = 0 then none else if x.1 8 26 (p + 1) = 0 then none else some (p + 1)
theorem m_bef_l {x : bt_X} {p q : Nat} (h : m_bef x p = some q) : q + 1 = p := by
  unfold m_bef at h
  split at h
  · cases h
  · split at h
    · cases h
    · cases h; omega
theorem m_aft_l {x : bt_X} {p q : Nat} (hp : p < 32) (h : m_aft x p = some q) : q = p + 1 ∧ q < 32 := by
  unfold m_aft at h
  split at h
  · cases h
  · split at h
    · cases h
    · cases h; omega
theorem m_dec {p : Nat} (h : p ≠ 0) : nI p + (-1 : Int32) = nI (p - 1) := by
  obtain ⟨n, rfl⟩ : ∃ n, p = n + 1 := ⟨p - 1, by omega⟩
  exact pk_m1 n
set_option maxRecDepth 100000 in
set_option maxHeartbeats 400000 in
theorem n_bef {G : bp_X} {α : bt_A} {σ x : bt_X} {p : Nat} (J : m_J α) (hp : p < 32) : bq_S G mX6_beside 1 [.ref (bt_ad α 6 0), .int (nI p), .int (-1 : Int32)] (bt α σ x) (bq_ret (some (.int (m_oi (m_bef x p)))) (bt α σ x)) := by
  refine bq_ofW (by decide +kernel) rfl (Nat.le_of_ble_eq_true rfl) ?_
  by_cases h0 : p = 0
  · subst h0
    rw [show m_bef x 0 = none from rfl]
    refine bq_iload_n (i := 1) dX6_beside_0 rfl ?_
    refine bq_iload_n (i := 2) dX6_beside_1 rfl ?_
    refine bq_iadd dX6_beside_2 ?_
    refine bq_istore_n (i := 3) dX6_beside_3 (by decide) ?_
    refine bq_iload_n (i := 3) dX6_beside_4 rfl ?_
    refine bq_iconst (v := (nI 0)) dX6_beside_5 (by decide) ?_
    refine bq_bipush (v := (nI 31)) dX6_beside_6 (by decide) ?_
    refine bq_callSr dX6_beside_8 ml_X6_81 (n_in) (by decide) (by decide) (Nat.le_of_ble_eq_true rfl) rfl ?_
    refine bq_if_eq (tgt := 36) dX6_beside_11 (by decide) (fun c_11 => ?_) (fun z9_ => absurd (show m_in (nI 0 + (-1 : Int32)) (nI 0) (nI 31) = 0 by decide) z9_)
    refine bq_iconst (v := (-1 : Int32)) dX6_beside_36 (by decide) ?_
    exact bq_iret dX6_beside_37 rfl (by first | rfl | decide) bq_ret_i
  · have e1 := m_dec h0
    by_cases h4 : p % 4 = 0
    · rw [show m_bef x p = none from if_pos h4]
      refine bq_iload_n (i := 1) dX6_beside_0 rfl ?_
      refine bq_iload_n (i := 2) dX6_beside_1 rfl ?_
      refine bq_iadd dX6_beside_2 ?_
      rw [e1]
      refine bq_istore_n (i := 3) dX6_beside_3 (by decide) ?_
      refine bq_iload_n (i := 3) dX6_beside_4 rfl ?_
      refine bq_iconst (v := (nI 0)) dX6_beside_5 (by decide) ?_
      refine bq_bipush (v := (nI 31)) dX6_beside_6 (by decide) ?_
      refine bq_callSr dX6_beside_8 ml_X6_81 (n_in) (by decide) (by decide) (Nat.le_of_ble_eq_true rfl) rfl ?_
      rw [m_in_1 (by omega) (by omega)]
      refine bq_if_eq (tgt := 36) dX6_beside_11 (by decide) (fun z9_ => absurd z9_ (show ¬ nI 1 = 0 by decide)) (fun c_11 => ?_)
      refine bq_iload_n (i := 3) dX6_beside_14 rfl ?_
      refine bq_iconst (v := (nI 4)) dX6_beside_15 (by decide) ?_
      refine bq_idiv dX6_beside_16 (by decide) ?_
      rw [pk_div (by omega) (by decide) (by decide)]
      refine bq_iload_n (i := 1) dX6_beside_17 rfl ?_
      refine bq_iconst (v := (nI 4)) dX6_beside_18 (by decide) ?_
      refine bq_idiv dX6_beside_19 (by decide) ?_
      rw [pk_div (by omega) (by decide) (by decide)]
      refine bq_icmp_ne (tgt := 36) dX6_beside_20 (by decide) (fun c_20 => ?_) (fun z9_ => absurd z9_ (show ¬ nI ((p - 1) / 4) = nI (p / 4) from fun z => by rw [nI_eq (by omega) (by omega)] at z; omega))
      refine bq_iconst (v := (-1 : Int32)) dX6_beside_36 (by decide) ?_
      exact bq_iret dX6_beside_37 rfl (by first | rfl | decide) bq_ret_i
    · unfold m_bef
      rw [if_neg h4]
      refine bq_iload_n (i := 1) dX6_beside_0 rfl ?_
      refine bq_iload_n (i := 2) dX6_beside_1 rfl ?_
      refine bq_iadd dX6_beside_2 ?_
      rw [e1]
      refine bq_istore_n (i := 3) dX6_beside_3 (by decide) ?_
      refine bq_iload_n (i := 3) dX6_beside_4 rfl ?_
      refine bq_iconst (v := (nI 0)) dX6_beside_5 (by decide) ?_
      refine bq_bipush (v := (nI 31)) dX6_beside_6 (by decide) ?_
      refine bq_callSr dX6_beside_8 ml_X6_81 (n_in) (by decide) (by decide) (Nat.le_of_ble_eq_true rfl) rfl ?_
      rw [m_in_1 (by omega) (by omega)]
      refine bq_if_eq (tgt := 36) dX6_beside_11 (by decide) (fun z9_ => absurd z9_ (show ¬ nI 1 = 0 by decide)) (fun c_11 => ?_)
      refine bq_iload_n (i := 3) dX6_beside_14 rfl ?_
      refine bq_iconst (v := (nI 4)) dX6_beside_15 (by decide) ?_
      refine bq_idiv dX6_beside_16 (by decide) ?_
      rw [pk_div (by omega) (by decide) (by decide)]
      refine bq_iload_n (i := 1) dX6_beside_17 rfl ?_
      refine bq_iconst (v := (nI 4)) dX6_beside_18 (by decide) ?_
      refine bq_idiv dX6_beside_19 (by decide) ?_
      rw [pk_div (by omega) (by decide) (by decide)]
      refine bq_icmp_ne (tgt := 36) dX6_beside_20 (by decide) (fun z9_ => absurd (show nI ((p - 1) / 4) = nI (p / 4) by congr 1; omega) z9_) (fun c_20 => ?_)
      refine bq_aload_n (i := 0) dX6_beside_23 rfl ?_
      refine bt_get3 (c' := 8) (n := 26) dX6_beside_24 fl_X6_50 (by first | assumption | exact J.v3 | exact J.v4 | exact J.v5 | exact J.v6 | exact J.l0 | exact J.l1 | exact J.l2 | exact J.l3 | exact J.row (by assumption) | exact J.ops (by assumption) | exact J.job (by assumption)) ⟨rfl, rfl, rfl⟩ (by decide) ?_
      refine bq_iload_n (i := 3) dX6_beside_27 rfl ?_
      refine bt_zald0 (n := 26) (j := (p - 1)) dX6_beside_28 J.a26 rfl (by omega) (by decide) rfl ?_
      refine bq_if_eq (tgt := 36) dX6_beside_29 (by decide) (fun c_29 => ?_) (fun c_29 => ?_)
      · rw [if_pos c_29]
        refine bq_iconst (v := (-1 : Int32)) dX6_beside_36 (by decide) ?_
        exact bq_iret dX6_beside_37 rfl (by first | rfl | decide) bq_ret_i
      · rw [if_neg c_29]
        refine bq_iload_n (i := 3) dX6_beside_32 rfl ?_
        refine bq_goto (tgt := 37) dX6_beside_33 (by decide) ?_
        exact bq_iret dX6_beside_37 rfl (by first | rfl | decide) bq_ret_i
set_option maxRecDepth 100000 in
set_option maxHeartbeats 400000 in
theorem n_aft {G : bp_X} {α : bt_A} {σ x : bt_X} {p : Nat} (J : m_J α) (hp : p < 32) : bq_S G mX6_beside 1 [.ref (bt_ad α 6 0), .int (nI p), .int (nI 1)] (bt α σ x) (bq_ret (some (.int (m_oi (m_aft x p)))) (bt α σ x)) := by
  refine bq_ofW (by decide +kernel) rfl (Nat.le_of_ble_eq_true rfl) ?_
  have e1 : nI p + nI 1 = nI (p + 1) := nI_add p 1
  by_cases h0 : p = 31
  · rw [show m_aft x p = none from if_pos (by omega)]
    refine bq_iload_n (i := 1) dX6_beside_0 rfl ?_
    refine bq_iload_n (i := 2) dX6_beside_1 rfl ?_
    refine bq_iadd dX6_beside_2 ?_
    rw [e1]
    refine bq_istore_n (i := 3) dX6_beside_3 (by decide) ?_
    refine bq_iload_n (i := 3) dX6_beside_4 rfl ?_
    refine bq_iconst (v := (nI 0)) dX6_beside_5 (by decide) ?_
    refine bq_bipush (v := (nI 31)) dX6_beside_6 (by decide) ?_
    refine bq_callSr dX6_beside_8 ml_X6_81 (n_in) (by decide) (by decide) (Nat.le_of_ble_eq_true rfl) rfl ?_
    rw [m_in_0 (by omega) (by omega)]
    refine bq_if_eq (tgt := 36) dX6_beside_11 (by decide) (fun c_11 => ?_) (fun z9_ => absurd (show nI 0 = 0 from rfl) z9_)
    refine bq_iconst (v := (-1 : Int32)) dX6_beside_36 (by decide) ?_
    exact bq_iret dX6_beside_37 rfl (by first | rfl | decide) bq_ret_i
  · by_cases h4 : (p + 1) % 4 = 0
    · rw [show m_aft x p = none from if_pos h4]
      refine bq_iload_n (i := 1) dX6_beside_0 rfl ?_
      refine bq_iload_n (i := 2) dX6_beside_1 rfl ?_
      refine bq_iadd dX6_beside_2 ?_
      rw [e1]
      refine bq_istore_n (i := 3) dX6_beside_3 (by decide) ?_
      refine bq_iload_n (i := 3) dX6_beside_4 rfl ?_
      refine bq_iconst (v := (nI 0)) dX6_beside_5 (by decide) ?_
      refine bq_bipush (v := (nI 31)) dX6_beside_6 (by decide) ?_
      refine bq_callSr dX6_beside_8 ml_X6_81 (n_in) (by decide) (by decide) (Nat.le_of_ble_eq_true rfl) rfl ?_
      rw [m_in_1 (by omega) (by omega)]
      refine bq_if_eq (tgt := 36) dX6_beside_11 (by decide) (fun z9_ => absurd z9_ (show ¬ nI 1 = 0 by decide)) (fun c_11 => ?_)
      refine bq_iload_n (i := 3) dX6_beside_14 rfl ?_
      refine bq_iconst (v := (nI 4)) dX6_beside_15 (by decide) ?_
      refine bq_idiv dX6_beside_16 (by decide) ?_
      rw [pk_div (by omega) (by decide) (by decide)]
      refine bq_iload_n (i := 1) dX6_beside_17 rfl ?_
      refine bq_iconst (v := (nI 4)) dX6_beside_18 (by decide) ?_
      refine bq_idiv dX6_beside_19 (by decide) ?_
      rw [pk_div (by omega) (by decide) (by decide)]
      refine bq_icmp_ne (tgt := 36) dX6_beside_20 (by decide) (fun c_20 => ?_) (fun z9_ => absurd z9_ (show ¬ nI ((p + 1) / 4) = nI (p / 4) from fun z => by rw [nI_eq (by omega) (by omega)] at z; omega))
      refine bq_iconst (v := (-1 : Int32)) dX6_beside_36 (by decide) ?_
      exact bq_iret dX6_beside_37 rfl (by first | rfl | decide) bq_ret_i
    · unfold m_aft
      rw [if_neg h4]
      refine bq_iload_n (i := 1) dX6_beside_0 rfl ?_
      refine bq_iload_n (i := 2) dX6_beside_1 rfl ?_
      refine bq_iadd dX6_beside_2 ?_
      rw [e1]
      refine bq_istore_n (i := 3) dX6_beside_3 (by decide) ?_
      refine bq_iload_n (i := 3) dX6_beside_4 rfl ?_
      refine bq_iconst (v := (nI 0)) dX6_beside_5 (by decide) ?_
      refine bq_bipush (v := (nI 31)) dX6_beside_6 (by decide) ?_
      refine bq_callSr dX6_beside_8 ml_X6_81 (n_in) (by decide) (by decide) (Nat.le_of_ble_eq_true rfl) rfl ?_
      rw [m_in_1 (by omega) (by omega)]
      refine bq_if_eq (tgt := 36) dX6_beside_11 (by decide) (fun z9_ => absurd z9_ (show ¬ nI 1 = 0 by decide)) (fun c_11 => ?_)
      refine bq_iload_n (i := 3) dX6_beside_14 rfl ?_
      refine bq_iconst (v := (nI 4)) dX6_beside_15 (by decide) ?_
      refine bq_idiv dX6_beside_16 (by decide) ?_
      rw [pk_div (by omega) (by decide) (by decide)]
      refine bq_iload_n (i := 1) dX6_beside_17 rfl ?_
      refine bq_iconst (v := (nI 4)) dX6_beside_18 (by decide) ?_
      refine bq_idiv dX6_beside_19 (by decide) ?_
      rw [pk_div (by omega) (by decide) (by decide)]
      refine bq_icmp_ne (tgt := 36) dX6_beside_20 (by decide) (fun z9_ => absurd (show nI ((p + 1) / 4) = nI (p / 4) by congr 1; omega) z9_) (fun c_20 => ?_)
      refine bq_aload_n (i := 0) dX6_beside_23 rfl ?_
      refine bt_get3 (c' := 8) (n := 26) dX6_beside_24 fl_X6_50 (by first | assumption | exact J.v3 | exact J.v4 | exact J.v5 | exact J.v6 | exact J.l0 | exact J.l1 | exact J.l2 | exact J.l3 | exact J.row (by assumption) | exact J.ops (by assumption) | exact J.job (by assumption)) ⟨rfl, rfl, rfl⟩ (by decide) ?_
      refine bq_iload_n (i := 3) dX6_beside_27 rfl ?_
      refine bt_zald0 (n := 26) (j := (p + 1)) dX6_beside_28 J.a26 rfl (by omega) (by decide) rfl ?_
      refine bq_if_eq (tgt := 36) dX6_beside_29 (by decide) (fun c_29 => ?_) (fun c_29 => ?_)
      · rw [if_pos c_29]
        refine bq_iconst (v := (-1 : Int32)) dX6_beside_36 (by decide) ?_
        exact bq_iret dX6_beside_37 rfl (by first | rfl | decide) bq_ret_i
      · rw [if_neg c_29]
        refine bq_iload_n (i := 3) dX6_beside_32 rfl ?_
        refine bq_goto (tgt := 37) dX6_beside_33 (by decide) ?_
        exact bq_iret dX6_beside_37 rfl (by first | rfl | decide) bq_ret_i
def m_rdy1 (σ x : bt_X) (p : Nat) : Int32 := match m_bef x p with
  | none => nI 0
  | some q => m_fin σ x q
def m_free (σ x : bt_X) (p : Nat) : Int32 := match m_opt (x.1 8 27 p) with
  | none => m_su σ 0 (m_fm σ p)
  | some q => m_fin σ x q + m_su σ (m_fm σ q) (m_fm σ p)
def m_wt3 (σ : bt_X) (p : Nat) (r : Int32) : Int32 := if σ.1 8 14 (m_mc σ p) ≤ r then r else if r + σ.1 8 22 p ≤ σ.1 8 13 (m_mc σ p) then r else σ.1 8 14 (m_mc σ p)
def m_wt2 (σ x : bt_X) (p : Nat) (a : Int32) : Int32 := m_wt3 σ p (if m_free σ x p ≤ a then a else m_free σ x p)
def m_wt (σ x : bt_X) (p : Nat) : Int32 := m_wt2 σ x p (m_rdy1 σ x p)
theorem m_mc_e {σ : bt_X} (hK : m_K σ) {p : Nat} (hp : p < 32) : σ.1 8 21 p = nI (m_mc σ p) ∧ m_mc σ p < 4 := (hK p hp).1
theorem m_fm_e {σ : bt_X} (hK : m_K σ) {p : Nat} (hp : p < 32) : σ.1 8 23 p = nI (m_fm σ p) ∧ m_fm σ p < 4 := (hK p hp).2
set_option maxRecDepth 100000 in
set_option maxHeartbeats 400000 in
theorem n_waits3 {G : bp_X} {α : bt_A} {σ x : bt_X} {p : Nat} {r : Int32} (J : m_J α) (hK : m_K σ) (hp : p < 32) : bq_W G mX6_waits 2 104 [(0, .ref (bt_ad α 6 0)), (1, .int (nI p)), (2, .int (nI (m_mc σ p))), (4, .int r)] [] (bt α σ x) (bq_ret (some (.int (m_wt3 σ p r))) (bt α σ x)) := by
  have hm := (m_mc_e hK hp).2
  unfold m_wt3
  refine bq_iload (i := 4) dX6_waits_104 rfl ?_
  refine bq_aload_n (i := 0) dX6_waits_106 rfl ?_
  refine bt_get3 (c' := 8) (n := 14) dX6_waits_107 fl_X6_16 (by first | assumption | exact J.v3 | exact J.v4 | exact J.v5 | exact J.v6 | exact J.l0 | exact J.l1 | exact J.l2 | exact J.l3 | exact J.row (by assumption) | exact J.ops (by assumption) | exact J.job (by assumption)) ⟨rfl, rfl, rfl⟩ (by decide) ?_
  refine bq_iload_n (i := 2) dX6_waits_110 rfl ?_
  refine bt_iald4 (n := 14) (j := (m_mc σ p)) dX6_waits_111 J.a14 rfl (by omega) (by decide) rfl ?_
  refine bq_icmp_ge (tgt := 142) dX6_waits_112 (by decide) (fun c_112 => ?_) (fun c_112 => ?_)
  · rw [if_pos c_112]
    refine bq_iload (i := 4) dX6_waits_142 rfl ?_
    exact bq_iret dX6_waits_144 rfl (by first | rfl | decide) bq_ret_i
  · rw [if_neg c_112]
    refine bq_iload (i := 4) dX6_waits_115 rfl ?_
    refine bq_aload_n (i := 0) dX6_waits_117 rfl ?_
    refine bt_get3 (c' := 8) (n := 22) dX6_waits_118 fl_X6_38 (by first | assumption | exact J.v3 | exact J.v4 | exact J.v5 | exact J.v6 | exact J.l0 | exact J.l1 | exact J.l2 | exact J.l3 | exact J.row (by assumption) | exact J.ops (by assumption) | exact J.job (by assumption)) ⟨rfl, rfl, rfl⟩ (by decide) ?_
    refine bq_iload_n (i := 1) dX6_waits_121 rfl ?_
    refine bt_iald4 (n := 22) (j := p) dX6_waits_122 J.a22 rfl (by omega) (by decide) rfl ?_
    refine bq_iadd dX6_waits_123 ?_
    refine bq_aload_n (i := 0) dX6_waits_124 rfl ?_
    refine bt_get3 (c' := 8) (n := 13) dX6_waits_125 fl_X6_13 (by first | assumption | exact J.v3 | exact J.v4 | exact J.v5 | exact J.v6 | exact J.l0 | exact J.l1 | exact J.l2 | exact J.l3 | exact J.row (by assumption) | exact J.ops (by assumption) | exact J.job (by assumption)) ⟨rfl, rfl, rfl⟩ (by decide) ?_
    refine bq_iload_n (i := 2) dX6_waits_128 rfl ?_
    refine bt_iald4 (n := 13) (j := (m_mc σ p)) dX6_waits_129 J.a13 rfl (by omega) (by decide) rfl ?_
    refine bq_icmp_le (tgt := 142) dX6_waits_130 (by decide) (fun c_130 => ?_) (fun c_130 => ?_)
    · rw [if_pos c_130]
      refine bq_iload (i := 4) dX6_waits_142 rfl ?_
      exact bq_iret dX6_waits_144 rfl (by first | rfl | decide) bq_ret_i
    · rw [if_neg c_130]
      refine bq_aload_n (i := 0) dX6_waits_133 rfl ?_
      refine bt_get3 (c' := 8) (n := 14) dX6_waits_134 fl_X6_16 (by first | assumption | exact J.v3 | exact J.v4 | exact J.v5 | exact J.v6 | exact J.l0 | exact J.l1 | exact J.l2 | exact J.l3 | exact J.row (by assumption) | exact J.ops (by assumption) | exact J.job (by assumption)) ⟨rfl, rfl, rfl⟩ (by decide) ?_
      refine bq_iload_n (i := 2) dX6_waits_137 rfl ?_
      refine bt_iald4 (n := 14) (j := (m_mc σ p)) dX6_waits_138 J.a14 rfl (by omega) (by decide) rfl ?_
      refine bq_goto (tgt := 144) dX6_waits_139 (by decide) ?_
      exact bq_iret dX6_waits_144 rfl (by first | rfl | decide) bq_ret_i
set_option maxRecDepth 100000 in
set_option maxHeartbeats 400000 in
theorem n_waits2b {G : bp_X} {α : bt_A} {σ x : bt_X} {p : Nat} {a f : Int32} (J : m_J α) (hK : m_K σ) (hp : p < 32) : bq_W G mX6_waits 2 88 [(0, .ref (bt_ad α 6 0)), (1, .int (nI p)), (2, .int (nI (m_mc σ p))), (4, .int a), (5, .int f)] [] (bt α σ x) (bq_ret (some (.int (m_wt3 σ p (if f ≤ a then a else f)))) (bt α σ x)) := by
  refine bq_iload (i := 5) dX6_waits_88 rfl ?_
  refine bq_iload (i := 4) dX6_waits_90 rfl ?_
  refine bq_icmp_le (tgt := 100) dX6_waits_92 (by decide) (fun c_92 => ?_) (fun c_92 => ?_)
  · rw [if_pos c_92]
    refine bq_iload (i := 4) dX6_waits_100 rfl ?_
    refine bq_istore (i := 4) dX6_waits_102 (by decide) ?_
    refine bq_lvs (lv' := [(0, .ref (bt_ad α 6 0)), (1, .int (nI p)), (2, .int (nI (m_mc σ p))), (4, .int _)]) ⟨rfl, rfl, rfl, rfl, trivial⟩ ?_
    exact n_waits3 J hK hp
  · rw [if_neg c_92]
    refine bq_iload (i := 5) dX6_waits_95 rfl ?_
    refine bq_goto (tgt := 102) dX6_waits_97 (by decide) ?_
    refine bq_istore (i := 4) dX6_waits_102 (by decide) ?_
    refine bq_lvs (lv' := [(0, .ref (bt_ad α 6 0)), (1, .int (nI p)), (2, .int (nI (m_mc σ p))), (4, .int _)]) ⟨rfl, rfl, rfl, rfl, trivial⟩ ?_
    exact n_waits3 J hK hp
set_option maxRecDepth 100000 in
set_option maxHeartbeats 400000 in
theorem n_waits2 {G : bp_X} {α : bt_A} {σ x : bt_X} {p : Nat} {a : Int32} (hL : m_L x) (J : m_J α) (hK : m_K σ) (hp : p < 32) : bq_W G mX6_waits 2 30 [(0, .ref (bt_ad α 6 0)), (1, .int (nI p)), (2, .int (nI (m_mc σ p))), (4, .int a)] [] (bt α σ x) (bq_ret (some (.int (m_wt2 σ x p a))) (bt α σ x)) := by
  have hm := (m_mc_e hK hp).2
  obtain ⟨f1, f2⟩ := m_fm_e hK hp
  have hl := (hL p hp).1
  have e27 := m_opt_i hl
  unfold m_wt2
  cases h : m_opt (x.1 8 27 p) with
  | none =>
    rw [h] at e27
    rw [show m_free σ x p = m_su σ 0 (m_fm σ p) by unfold m_free; rw [h]]
    refine bq_aload_n (i := 0) dX6_waits_30 rfl ?_
    refine bt_get3 (c' := 8) (n := 27) dX6_waits_31 fl_X6_53 (by first | assumption | exact J.v3 | exact J.v4 | exact J.v5 | exact J.v6 | exact J.l0 | exact J.l1 | exact J.l2 | exact J.l3 | exact J.row (by assumption) | exact J.ops (by assumption) | exact J.job (by assumption)) ⟨rfl, rfl, rfl⟩ (by decide) ?_
    refine bq_iload_n (i := 1) dX6_waits_34 rfl ?_
    refine bt_iald0 (n := 27) (j := p) dX6_waits_35 J.a27 rfl (by omega) (by decide) rfl ?_
    rw [e27]
    refine bq_iconst (v := (-1 : Int32)) dX6_waits_36 (by decide) ?_
    refine bq_icmp_ne (tgt := 54) dX6_waits_37 (by decide) (fun z9_ => absurd (show m_oi none = (-1 : Int32) from rfl) z9_) (fun c_37 => ?_)
    refine bq_aload_n (i := 0) dX6_waits_40 rfl ?_
    refine bq_iconst (v := (nI 0)) dX6_waits_41 (by decide) ?_
    refine bq_aload_n (i := 0) dX6_waits_42 rfl ?_
    refine bt_get3 (c' := 8) (n := 23) dX6_waits_43 fl_X6_41 (by first | assumption | exact J.v3 | exact J.v4 | exact J.v5 | exact J.v6 | exact J.l0 | exact J.l1 | exact J.l2 | exact J.l3 | exact J.row (by assumption) | exact J.ops (by assumption) | exact J.job (by assumption)) ⟨rfl, rfl, rfl⟩ (by decide) ?_
    refine bq_iload_n (i := 1) dX6_waits_46 rfl ?_
    refine bt_iald4 (n := 23) (j := p) dX6_waits_47 J.a23 rfl (by omega) (by decide) rfl ?_
    rw [f1]
    refine bt_callVr (c := 6) (i := 0) dX6_waits_48 rfl ml_X6_96 (by first | assumption | exact J.v3 | exact J.v4 | exact J.v5 | exact J.v6 | exact J.l0 | exact J.l1 | exact J.l2 | exact J.l3 | exact J.row (by assumption) | exact J.ops (by assumption) | exact J.job (by assumption)) (by decide) (n_setup J (by decide) f2) (by decide) (by decide) (Nat.le_of_ble_eq_true rfl) rfl ?_
    refine bq_goto (tgt := 86) dX6_waits_51 (by decide) ?_
    refine bq_istore (i := 5) dX6_waits_86 (by decide) ?_
    refine bq_lvs (lv' := [(0, .ref (bt_ad α 6 0)), (1, .int (nI p)), (2, .int (nI (m_mc σ p))), (4, .int a), (5, .int _)]) ⟨rfl, rfl, rfl, rfl, rfl, trivial⟩ ?_
    exact n_waits2b J hK hp
  | some q =>
    rw [h] at e27
    have hq := m_opt_l hl h
    obtain ⟨g1, g2⟩ := m_fm_e hK hq
    rw [show m_free σ x p = m_fin σ x q + m_su σ (m_fm σ q) (m_fm σ p) by unfold m_free; rw [h]]
    refine bq_aload_n (i := 0) dX6_waits_30 rfl ?_
    refine bt_get3 (c' := 8) (n := 27) dX6_waits_31 fl_X6_53 (by first | assumption | exact J.v3 | exact J.v4 | exact J.v5 | exact J.v6 | exact J.l0 | exact J.l1 | exact J.l2 | exact J.l3 | exact J.row (by assumption) | exact J.ops (by assumption) | exact J.job (by assumption)) ⟨rfl, rfl, rfl⟩ (by decide) ?_
    refine bq_iload_n (i := 1) dX6_waits_34 rfl ?_
    refine bt_iald0 (n := 27) (j := p) dX6_waits_35 J.a27 rfl (by omega) (by decide) rfl ?_
    rw [e27]
    refine bq_iconst (v := (-1 : Int32)) dX6_waits_36 (by decide) ?_
    refine bq_icmp_ne (tgt := 54) dX6_waits_37 (by decide) (fun c_37 => ?_) (fun z9_ => absurd z9_ (show ¬ m_oi (some q) = (-1 : Int32) from m_nI_ne (by omega)))
    refine bq_aload_n (i := 0) dX6_waits_54 rfl ?_
    refine bq_aload_n (i := 0) dX6_waits_55 rfl ?_
    refine bt_get3 (c' := 8) (n := 27) dX6_waits_56 fl_X6_53 (by first | assumption | exact J.v3 | exact J.v4 | exact J.v5 | exact J.v6 | exact J.l0 | exact J.l1 | exact J.l2 | exact J.l3 | exact J.row (by assumption) | exact J.ops (by assumption) | exact J.job (by assumption)) ⟨rfl, rfl, rfl⟩ (by decide) ?_
    refine bq_iload_n (i := 1) dX6_waits_59 rfl ?_
    refine bt_iald0 (n := 27) (j := p) dX6_waits_60 J.a27 rfl (by omega) (by decide) rfl ?_
    rw [e27]
    refine bt_callVr (c := 6) (i := 0) dX6_waits_61 rfl ml_X6_92 (by first | assumption | exact J.v3 | exact J.v4 | exact J.v5 | exact J.v6 | exact J.l0 | exact J.l1 | exact J.l2 | exact J.l3 | exact J.row (by assumption) | exact J.ops (by assumption) | exact J.job (by assumption)) (by decide) (n_finish J hq) (by decide) (by decide) (Nat.le_of_ble_eq_true rfl) rfl ?_
    refine bq_aload_n (i := 0) dX6_waits_64 rfl ?_
    refine bq_aload_n (i := 0) dX6_waits_65 rfl ?_
    refine bt_get3 (c' := 8) (n := 23) dX6_waits_66 fl_X6_41 (by first | assumption | exact J.v3 | exact J.v4 | exact J.v5 | exact J.v6 | exact J.l0 | exact J.l1 | exact J.l2 | exact J.l3 | exact J.row (by assumption) | exact J.ops (by assumption) | exact J.job (by assumption)) ⟨rfl, rfl, rfl⟩ (by decide) ?_
    refine bq_aload_n (i := 0) dX6_waits_69 rfl ?_
    refine bt_get3 (c' := 8) (n := 27) dX6_waits_70 fl_X6_53 (by first | assumption | exact J.v3 | exact J.v4 | exact J.v5 | exact J.v6 | exact J.l0 | exact J.l1 | exact J.l2 | exact J.l3 | exact J.row (by assumption) | exact J.ops (by assumption) | exact J.job (by assumption)) ⟨rfl, rfl, rfl⟩ (by decide) ?_
    refine bq_iload_n (i := 1) dX6_waits_73 rfl ?_
    refine bt_iald0 (n := 27) (j := p) dX6_waits_74 J.a27 rfl (by omega) (by decide) rfl ?_
    rw [e27]
    refine bt_iald4 (n := 23) (j := q) dX6_waits_75 J.a23 rfl (by omega) (by decide) rfl ?_
    rw [g1]
    refine bq_aload_n (i := 0) dX6_waits_76 rfl ?_
    refine bt_get3 (c' := 8) (n := 23) dX6_waits_77 fl_X6_41 (by first | assumption | exact J.v3 | exact J.v4 | exact J.v5 | exact J.v6 | exact J.l0 | exact J.l1 | exact J.l2 | exact J.l3 | exact J.row (by assumption) | exact J.ops (by assumption) | exact J.job (by assumption)) ⟨rfl, rfl, rfl⟩ (by decide) ?_
    refine bq_iload_n (i := 1) dX6_waits_80 rfl ?_
    refine bt_iald4 (n := 23) (j := p) dX6_waits_81 J.a23 rfl (by omega) (by decide) rfl ?_
    rw [f1]
    refine bt_callVr (c := 6) (i := 0) dX6_waits_82 rfl ml_X6_96 (by first | assumption | exact J.v3 | exact J.v4 | exact J.v5 | exact J.v6 | exact J.l0 | exact J.l1 | exact J.l2 | exact J.l3 | exact J.row (by assumption) | exact J.ops (by assumption) | exact J.job (by assumption)) (by decide) (n_setup J g2 f2) (by decide) (by decide) (Nat.le_of_ble_eq_true rfl) rfl ?_
    refine bq_iadd dX6_waits_85 ?_
    refine bq_istore (i := 5) dX6_waits_86 (by decide) ?_
    refine bq_lvs (lv' := [(0, .ref (bt_ad α 6 0)), (1, .int (nI p)), (2, .int (nI (m_mc σ p))), (4, .int a), (5, .int _)]) ⟨rfl, rfl, rfl, rfl, rfl, trivial⟩ ?_
    exact n_waits2b J hK hp
set_option maxRecDepth 100000 in
set_option maxHeartbeats 400000 in
theorem n_waits {G : bp_X} {α : bt_A} {σ x : bt_X} {p : Nat} (J : m_J α) (hK : m_K σ) (hL : m_L x) (hp : p < 32) : bq_S G mX6_waits 2 [.ref (bt_ad α 6 0), .int (nI p)] (bt α σ x) (bq_ret (some (.int (m_wt σ x p))) (bt α σ x)) := by
  refine bq_ofW (by decide +kernel) rfl (Nat.le_of_ble_eq_true rfl) ?_
  obtain ⟨f1, f2⟩ := m_mc_e hK hp
  unfold m_wt
  cases h : m_bef x p with
  | none =>
    rw [show m_rdy1 σ x p = nI 0 by unfold m_rdy1; rw [h]]
    refine bq_aload_n (i := 0) dX6_waits_0 rfl ?_
    refine bt_get3 (c' := 8) (n := 21) dX6_waits_1 fl_X6_35 (by first | assumption | exact J.v3 | exact J.v4 | exact J.v5 | exact J.v6 | exact J.l0 | exact J.l1 | exact J.l2 | exact J.l3 | exact J.row (by assumption) | exact J.ops (by assumption) | exact J.job (by assumption)) ⟨rfl, rfl, rfl⟩ (by decide) ?_
    refine bq_iload_n (i := 1) dX6_waits_4 rfl ?_
    refine bt_iald4 (n := 21) (j := p) dX6_waits_5 J.a21 rfl (by omega) (by decide) rfl ?_
    rw [f1]
    refine bq_istore_n (i := 2) dX6_waits_6 (by decide) ?_
    refine bq_aload_n (i := 0) dX6_waits_7 rfl ?_
    refine bq_iload_n (i := 1) dX6_waits_8 rfl ?_
    refine bq_iconst (v := (-1 : Int32)) dX6_waits_9 (by decide) ?_
    refine bt_callVr (c := 6) (i := 0) dX6_waits_10 rfl ml_X6_88 (by first | assumption | exact J.v3 | exact J.v4 | exact J.v5 | exact J.v6 | exact J.l0 | exact J.l1 | exact J.l2 | exact J.l3 | exact J.row (by assumption) | exact J.ops (by assumption) | exact J.job (by assumption)) (by decide) (n_bef J hp) (by decide) (by decide) (Nat.le_of_ble_eq_true rfl) rfl ?_
    rw [h]
    refine bq_istore_n (i := 3) dX6_waits_13 (by decide) ?_
    refine bq_iload_n (i := 3) dX6_waits_14 rfl ?_
    refine bq_iconst (v := (-1 : Int32)) dX6_waits_15 (by decide) ?_
    refine bq_icmp_ne (tgt := 23) dX6_waits_16 (by decide) (fun z9_ => absurd (show m_oi none = (-1 : Int32) from rfl) z9_) (fun c_16 => ?_)
    refine bq_iconst (v := (nI 0)) dX6_waits_19 (by decide) ?_
    refine bq_goto (tgt := 28) dX6_waits_20 (by decide) ?_
    refine bq_istore (i := 4) dX6_waits_28 (by decide) ?_
    refine bq_lvs (lv' := [(0, .ref (bt_ad α 6 0)), (1, .int (nI p)), (2, .int (nI (m_mc σ p))), (4, .int _)]) ⟨rfl, rfl, rfl, rfl, trivial⟩ ?_
    exact n_waits2 hL J hK hp
  | some q =>
    have hq := m_bef_l h
    rw [show m_rdy1 σ x p = m_fin σ x q by unfold m_rdy1; rw [h]]
    refine bq_aload_n (i := 0) dX6_waits_0 rfl ?_
    refine bt_get3 (c' := 8) (n := 21) dX6_waits_1 fl_X6_35 (by first | assumption | exact J.v3 | exact J.v4 | exact J.v5 | exact J.v6 | exact J.l0 | exact J.l1 | exact J.l2 | exact J.l3 | exact J.row (by assumption) | exact J.ops (by assumption) | exact J.job (by assumption)) ⟨rfl, rfl, rfl⟩ (by decide) ?_
    refine bq_iload_n (i := 1) dX6_waits_4 rfl ?_
    refine bt_iald4 (n := 21) (j := p) dX6_waits_5 J.a21 rfl (by omega) (by decide) rfl ?_
    rw [f1]
    refine bq_istore_n (i := 2) dX6_waits_6 (by decide) ?_
    refine bq_aload_n (i := 0) dX6_waits_7 rfl ?_
    refine bq_iload_n (i := 1) dX6_waits_8 rfl ?_
    refine bq_iconst (v := (-1 : Int32)) dX6_waits_9 (by decide) ?_
    refine bt_callVr (c := 6) (i := 0) dX6_waits_10 rfl ml_X6_88 (by first | assumption | exact J.v3 | exact J.v4 | exact J.v5 | exact J.v6 | exact J.l0 | exact J.l1 | exact J.l2 | exact J.l3 | exact J.row (by assumption) | exact J.ops (by assumption) | exact J.job (by assumption)) (by decide) (n_bef J hp) (by decide) (by decide) (Nat.le_of_ble_eq_true rfl) rfl ?_
    rw [h]
    refine bq_istore_n (i := 3) dX6_waits_13 (by decide) ?_
    refine bq_iload_n (i := 3) dX6_waits_14 rfl ?_
    refine bq_iconst (v := (-1 : Int32)) dX6_waits_15 (by decide) ?_
    refine bq_icmp_ne (tgt := 23) dX6_waits_16 (by decide) (fun c_16 => ?_) (fun z9_ => absurd z9_ (show ¬ m_oi (some q) = (-1 : Int32) from m_nI_ne (by omega)))
    refine bq_aload_n (i := 0) dX6_waits_23 rfl ?_
    refine bq_iload_n (i := 3) dX6_waits_24 rfl ?_
    refine bt_callVr (c := 6) (i := 0) dX6_waits_25 rfl ml_X6_92 (by first | assumption | exact J.v3 | exact J.v4 | exact J.v5 | exact J.v6 | exact J.l0 | exact J.l1 | exact J.l2 | exact J.l3 | exact J.row (by assumption) | exact J.ops (by assumption) | exact J.job (by assumption)) (by decide) (n_finish J (by omega)) (by decide) (by decide) (Nat.le_of_ble_eq_true rfl) rfl ?_
    refine bq_istore (i := 4) dX6_waits_28 (by decide) ?_
    refine bq_lvs (lv' := [(0, .ref (bt_ad α 6 0)), (1, .int (nI p)), (2, .int (nI (m_mc σ p))), (4, .int _)]) ⟨rfl, rfl, rfl, rfl, trivial⟩ ?_
    exact n_waits2 hL J hK hp
def m_its (σ x : bt_X) (p : Nat) : Int32 := if x.1 8 26 p = 0 then nI 0 else m_wt σ x p
def m_chg (ch v w : Int32) : Int32 := if ch = 0 then (if v = w then nI 0 else nI 1) else nI 1
theorem m_chg_a {ch v w : Int32} (h : ¬ ch = 0) : m_chg ch v w = nI 1 := if_neg h
theorem m_chg_b {ch v w : Int32} (h : ch = 0) (e : v = w) : m_chg ch v w = nI 0 := (if_pos h).trans (if_pos e)
theorem m_chg_c {ch v w : Int32} (h : ch = 0) (e : ¬ v = w) : m_chg ch v w = nI 1 := (if_pos h).trans (if_neg e)
/-- one round over all operations -/
def m_rd (σ : bt_X) : Nat → Nat → Int32 → bt_X → Int32 × bt_X
  | 0, _, ch, x => (ch, x)
  | n + 1, p, ch, x => m_rd σ n (p + 1) (m_chg ch (m_its σ x p) (x.1 8 29 p)) (bt_gs x 8 29 p (m_its σ x p))
noncomputable def m_wkL (σ : bt_X) : Nat → Int32 → bt_X → Int32 × bt_X
  | 0, ch, x => (ch, x)
  | n + 1, ch, x => if ch = 0 then (ch, x) else m_wkL σ n (m_rd σ m_32 0 (nI 0) x).1 (m_rd σ m_32 0 (nI 0) x).2
noncomputable def m_wk (σ x : bt_X) : Int32 × bt_X := m_wkL σ m_33 (nI 1) (m_lays σ x)
/-- no way round? -/
noncomputable def m_wOk (σ x : bt_X) : Int32 := if (m_wk σ x).1 = 0 then nI 1 else nI 0
/-- the state behind it -/
noncomputable def m_wS (σ x : bt_X) : bt_X := (m_wk σ x).2
theorem m_L.ext {x y : bt_X} (h : m_L x) (e : ∀ i k, i = 27 ∨ i = 28 → y.1 8 i k = x.1 8 i k) : m_L y := by
  intro p hp
  obtain ⟨h1, h2⟩ := h p hp
  rw [e 27 p (Or.inl rfl), e 28 p (Or.inr rfl)]
  exact ⟨h1, h2⟩
theorem m_rd_n {σ : bt_X} {c i k : Nat} (h : ¬ (c = 8 ∧ i = 29)) : ∀ (n p : Nat) (ch : Int32) (x : bt_X), (m_rd σ n p ch x).2.1 c i k = x.1 c i k := by
  intro n
  induction n with
  | zero => intro p ch x; rfl
  | succ n ih =>
    intro p ch x
    unfold m_rd
    rw [ih, b_gs_ne (by omega)]
theorem m_wkL_n {σ : bt_X} {c i k : Nat} (h : ¬ (c = 8 ∧ i = 29)) : ∀ (n : Nat) (ch : Int32) (x : bt_X), (m_wkL σ n ch x).2.1 c i k = x.1 c i k := by
  intro n
  induction n with
  | zero => intro ch x; rfl
  | succ n ih =>
    intro ch x
    unfold m_wkL
    split
    · rfl
    · rw [ih, m_rd_n h]
theorem m_works_n {σ x : bt_X} {c i k : Nat} (h : ¬ (c = 8 ∧ 26 ≤ i ∧ i ≤ 29)) : (m_wS σ x).1 c i k = x.1 c i k := by
  unfold m_wS m_wk
  rw [m_wkL_n (by omega), m_lays_n h]
theorem m_works_L {σ x : bt_X} (hN : m_Nn σ) (hR : m_Rw x) : m_L (m_wS σ x) := (m_lays_L hN hR).ext (fun i k hi => by unfold m_wS m_wk; rw [m_wkL_n (by omega)])
set_option maxRecDepth 100000 in
set_option maxHeartbeats 400000 in
theorem n_works_p {G : bp_X} {α : bt_A} {σ : bt_X} (J : m_J α) (hK : m_K σ) {Φ : bp_O → bq_O → Prop} {rd : Int32} : ∀ (n p : Nat) (ch : Int32) (x : bt_X), n + p = 32 → m_L x →
    bq_W G mX6_works 3 86 [(0, .ref (bt_ad α 6 0)), (1, .int (m_rd σ n p ch x).1), (2, .int rd)] [] (bt α σ (m_rd σ n p ch x).2) Φ → bq_W G mX6_works 3 25 [(0, .ref (bt_ad α 6 0)), (1, .int ch), (2, .int rd), (3, .int (nI p))] [] (bt α σ x) Φ := by
  intro n
  induction n with
  | zero =>
    intro p ch x hp hL kk
    unfold m_rd at kk
    refine bq_iload_n (i := 3) dX6_works_25 rfl ?_
    refine bq_bipush (v := (nI 32)) dX6_works_26 (by decide) ?_
    refine bq_icmp_ge (tgt := 86) dX6_works_28 (by decide) (fun c_28 => ?_) (fun z9_ => absurd (show nI 32 ≤ nI p from nI_le (by omega) (by omega)) z9_)
    refine bq_lvs (lv' := [(0, .ref (bt_ad α 6 0)), (1, .int ch), (2, .int rd)]) ⟨rfl, rfl, rfl, trivial⟩ ?_
    exact kk
  | succ n ih =>
    intro p ch x hp hL kk
    unfold m_rd at kk
    refine bq_iload_n (i := 3) dX6_works_25 rfl ?_
    refine bq_bipush (v := (nI 32)) dX6_works_26 (by decide) ?_
    refine bq_icmp_ge (tgt := 86) dX6_works_28 (by decide) (fun z9_ => absurd z9_ (show ¬ nI 32 ≤ nI p from nI_ge (by omega) (by omega))) (fun c_28 => ?_)
    refine bq_aload_n (i := 0) dX6_works_31 rfl ?_
    refine bt_get3 (c' := 8) (n := 26) dX6_works_32 fl_X6_50 (by first | assumption | exact J.v3 | exact J.v4 | exact J.v5 | exact J.v6 | exact J.l0 | exact J.l1 | exact J.l2 | exact J.l3 | exact J.row (by assumption) | exact J.ops (by assumption) | exact J.job (by assumption)) ⟨rfl, rfl, rfl⟩ (by decide) ?_
    refine bq_iload_n (i := 3) dX6_works_35 rfl ?_
    refine bt_zald0 (n := 26) (j := p) dX6_works_36 J.a26 rfl (by omega) (by decide) rfl ?_
    refine bq_if_eq (tgt := 48) dX6_works_37 (by decide) (fun c_37 => ?_) (fun c_37 => ?_)
    · rw [show m_its σ x p = nI 0 from if_pos c_37] at kk
      refine bq_iconst (v := (nI 0)) dX6_works_48 (by decide) ?_
      refine bq_istore (i := 4) dX6_works_49 (by decide) ?_
      refine bq_iload_n (i := 1) dX6_works_51 rfl ?_
      refine bq_if_ne (tgt := 66) dX6_works_52 (by decide) (fun c_52 => ?_) (fun c_52 => ?_)
      · rw [m_chg_a c_52] at kk
        refine bq_iconst (v := (nI 1)) dX6_works_66 (by decide) ?_
        refine bq_goto (tgt := 71) dX6_works_67 (by decide) ?_
        refine bq_istore_n (i := 1) dX6_works_71 (by decide) ?_
        refine bq_aload_n (i := 0) dX6_works_72 rfl ?_
        refine bt_get3 (c' := 8) (n := 29) dX6_works_73 fl_X6_59 (by first | assumption | exact J.v3 | exact J.v4 | exact J.v5 | exact J.v6 | exact J.l0 | exact J.l1 | exact J.l2 | exact J.l3 | exact J.row (by assumption) | exact J.ops (by assumption) | exact J.job (by assumption)) ⟨rfl, rfl, rfl⟩ (by decide) ?_
        refine bq_iload_n (i := 3) dX6_works_76 rfl ?_
        refine bq_iload (i := 4) dX6_works_77 rfl ?_
        refine bt_iast0 (n := 29) (j := p) dX6_works_79 J.a29 rfl (by omega) (by decide) rfl ?_
        refine bq_iinc dX6_works_80 rfl (by decide) (by first | exact bp_inc _ | rfl) ?_
        refine bq_goto (tgt := 25) dX6_works_83 (by decide) ?_
        refine bq_lvs (lv' := [(0, .ref (bt_ad α 6 0)), (1, .int _), (2, .int rd), (3, .int (nI (p + 1)))]) ⟨rfl, rfl, rfl, rfl, trivial⟩ ?_
        exact ih (p + 1) _ _ (by omega) (hL.ext (fun i k hi => b_gs_ne (by omega))) kk
      · refine bq_iload (i := 4) dX6_works_55 rfl ?_
        refine bq_aload_n (i := 0) dX6_works_57 rfl ?_
        refine bt_get3 (c' := 8) (n := 29) dX6_works_58 fl_X6_59 (by first | assumption | exact J.v3 | exact J.v4 | exact J.v5 | exact J.v6 | exact J.l0 | exact J.l1 | exact J.l2 | exact J.l3 | exact J.row (by assumption) | exact J.ops (by assumption) | exact J.job (by assumption)) ⟨rfl, rfl, rfl⟩ (by decide) ?_
        refine bq_iload_n (i := 3) dX6_works_61 rfl ?_
        refine bt_iald0 (n := 29) (j := p) dX6_works_62 J.a29 rfl (by omega) (by decide) rfl ?_
        refine bq_icmp_eq (tgt := 70) dX6_works_63 (by decide) (fun c_63 => ?_) (fun c_63 => ?_)
        · rw [m_chg_b c_52 c_63] at kk
          refine bq_iconst (v := (nI 0)) dX6_works_70 (by decide) ?_
          refine bq_istore_n (i := 1) dX6_works_71 (by decide) ?_
          refine bq_aload_n (i := 0) dX6_works_72 rfl ?_
          refine bt_get3 (c' := 8) (n := 29) dX6_works_73 fl_X6_59 (by first | assumption | exact J.v3 | exact J.v4 | exact J.v5 | exact J.v6 | exact J.l0 | exact J.l1 | exact J.l2 | exact J.l3 | exact J.row (by assumption) | exact J.ops (by assumption) | exact J.job (by assumption)) ⟨rfl, rfl, rfl⟩ (by decide) ?_
          refine bq_iload_n (i := 3) dX6_works_76 rfl ?_
          refine bq_iload (i := 4) dX6_works_77 rfl ?_
          refine bt_iast0 (n := 29) (j := p) dX6_works_79 J.a29 rfl (by omega) (by decide) rfl ?_
          refine bq_iinc dX6_works_80 rfl (by decide) (by first | exact bp_inc _ | rfl) ?_
          refine bq_goto (tgt := 25) dX6_works_83 (by decide) ?_
          refine bq_lvs (lv' := [(0, .ref (bt_ad α 6 0)), (1, .int _), (2, .int rd), (3, .int (nI (p + 1)))]) ⟨rfl, rfl, rfl, rfl, trivial⟩ ?_
          exact ih (p + 1) _ _ (by omega) (hL.ext (fun i k hi => b_gs_ne (by omega))) kk
        · rw [m_chg_c c_52 c_63] at kk
          refine bq_iconst (v := (nI 1)) dX6_works_66 (by decide) ?_
          refine bq_goto (tgt := 71) dX6_works_67 (by decide) ?_
          refine bq_istore_n (i := 1) dX6_works_71 (by decide) ?_
          refine bq_aload_n (i := 0) dX6_works_72 rfl ?_
          refine bt_get3 (c' := 8) (n := 29) dX6_works_73 fl_X6_59 (by first | assumption | exact J.v3 | exact J.v4 | exact J.v5 | exact J.v6 | exact J.l0 | exact J.l1 | exact J.l2 | exact J.l3 | exact J.row (by assumption) | exact J.ops (by assumption) | exact J.job (by assumption)) ⟨rfl, rfl, rfl⟩ (by decide) ?_
          refine bq_iload_n (i := 3) dX6_works_76 rfl ?_
          refine bq_iload (i := 4) dX6_works_77 rfl ?_
          refine bt_iast0 (n := 29) (j := p) dX6_works_79 J.a29 rfl (by omega) (by decide) rfl ?_
          refine bq_iinc dX6_works_80 rfl (by decide) (by first | exact bp_inc _ | rfl) ?_
          refine bq_goto (tgt := 25) dX6_works_83 (by decide) ?_
          refine bq_lvs (lv' := [(0, .ref (bt_ad α 6 0)), (1, .int _), (2, .int rd), (3, .int (nI (p + 1)))]) ⟨rfl, rfl, rfl, rfl, trivial⟩ ?_
          exact ih (p + 1) _ _ (by omega) (hL.ext (fun i k hi => b_gs_ne (by omega))) kk
    · rw [show m_its σ x p = m_wt σ x p from if_neg c_37] at kk
      refine bq_aload_n (i := 0) dX6_works_40 rfl ?_
      refine bq_iload_n (i := 3) dX6_works_41 rfl ?_
      refine bt_callVr (c := 6) (i := 0) dX6_works_42 rfl ml_X6_102 (by first | assumption | exact J.v3 | exact J.v4 | exact J.v5 | exact J.v6 | exact J.l0 | exact J.l1 | exact J.l2 | exact J.l3 | exact J.row (by assumption) | exact J.ops (by assumption) | exact J.job (by assumption)) (by decide) (n_waits J hK hL (by omega)) (by decide) (by decide) (Nat.le_of_ble_eq_true rfl) rfl ?_
      refine bq_goto (tgt := 49) dX6_works_45 (by decide) ?_
      refine bq_istore (i := 4) dX6_works_49 (by decide) ?_
      refine bq_iload_n (i := 1) dX6_works_51 rfl ?_
      refine bq_if_ne (tgt := 66) dX6_works_52 (by decide) (fun c_52 => ?_) (fun c_52 => ?_)
      · rw [m_chg_a c_52] at kk
        refine bq_iconst (v := (nI 1)) dX6_works_66 (by decide) ?_
        refine bq_goto (tgt := 71) dX6_works_67 (by decide) ?_
        refine bq_istore_n (i := 1) dX6_works_71 (by decide) ?_
        refine bq_aload_n (i := 0) dX6_works_72 rfl ?_
        refine bt_get3 (c' := 8) (n := 29) dX6_works_73 fl_X6_59 (by first | assumption | exact J.v3 | exact J.v4 | exact J.v5 | exact J.v6 | exact J.l0 | exact J.l1 | exact J.l2 | exact J.l3 | exact J.row (by assumption) | exact J.ops (by assumption) | exact J.job (by assumption)) ⟨rfl, rfl, rfl⟩ (by decide) ?_
        refine bq_iload_n (i := 3) dX6_works_76 rfl ?_
        refine bq_iload (i := 4) dX6_works_77 rfl ?_
        refine bt_iast0 (n := 29) (j := p) dX6_works_79 J.a29 rfl (by omega) (by decide) rfl ?_
        refine bq_iinc dX6_works_80 rfl (by decide) (by first | exact bp_inc _ | rfl) ?_
        refine bq_goto (tgt := 25) dX6_works_83 (by decide) ?_
        refine bq_lvs (lv' := [(0, .ref (bt_ad α 6 0)), (1, .int _), (2, .int rd), (3, .int (nI (p + 1)))]) ⟨rfl, rfl, rfl, rfl, trivial⟩ ?_
        exact ih (p + 1) _ _ (by omega) (hL.ext (fun i k hi => b_gs_ne (by omega))) kk
      · refine bq_iload (i := 4) dX6_works_55 rfl ?_
        refine bq_aload_n (i := 0) dX6_works_57 rfl ?_
        refine bt_get3 (c' := 8) (n := 29) dX6_works_58 fl_X6_59 (by first | assumption | exact J.v3 | exact J.v4 | exact J.v5 | exact J.v6 | exact J.l0 | exact J.l1 | exact J.l2 | exact J.l3 | exact J.row (by assumption) | exact J.ops (by assumption) | exact J.job (by assumption)) ⟨rfl, rfl, rfl⟩ (by decide) ?_
        refine bq_iload_n (i := 3) dX6_works_61 rfl ?_
        refine bt_iald0 (n := 29) (j := p) dX6_works_62 J.a29 rfl (by omega) (by decide) rfl ?_
        refine bq_icmp_eq (tgt := 70) dX6_works_63 (by decide) (fun c_63 => ?_) (fun c_63 => ?_)
        · rw [m_chg_b c_52 c_63] at kk
          refine bq_iconst (v := (nI 0)) dX6_works_70 (by decide) ?_
          refine bq_istore_n (i := 1) dX6_works_71 (by decide) ?_
          refine bq_aload_n (i := 0) dX6_works_72 rfl ?_
          refine bt_get3 (c' := 8) (n := 29) dX6_works_73 fl_X6_59 (by first | assumption | exact J.v3 | exact J.v4 | exact J.v5 | exact J.v6 | exact J.l0 | exact J.l1 | exact J.l2 | exact J.l3 | exact J.row (by assumption) | exact J.ops (by assumption) | exact J.job (by assumption)) ⟨rfl, rfl, rfl⟩ (by decide) ?_
          refine bq_iload_n (i := 3) dX6_works_76 rfl ?_
          refine bq_iload (i := 4) dX6_works_77 rfl ?_
          refine bt_iast0 (n := 29) (j := p) dX6_works_79 J.a29 rfl (by omega) (by decide) rfl ?_
          refine bq_iinc dX6_works_80 rfl (by decide) (by first | exact bp_inc _ | rfl) ?_
          refine bq_goto (tgt := 25) dX6_works_83 (by decide) ?_
          refine bq_lvs (lv' := [(0, .ref (bt_ad α 6 0)), (1, .int _), (2, .int rd), (3, .int (nI (p + 1)))]) ⟨rfl, rfl, rfl, rfl, trivial⟩ ?_
          exact ih (p + 1) _ _ (by omega) (hL.ext (fun i k hi => b_gs_ne (by omega))) kk
        · rw [m_chg_c c_52 c_63] at kk
          refine bq_iconst (v := (nI 1)) dX6_works_66 (by decide) ?_
          refine bq_goto (tgt := 71) dX6_works_67 (by decide) ?_
          refine bq_istore_n (i := 1) dX6_works_71 (by decide) ?_
          refine bq_aload_n (i := 0) dX6_works_72 rfl ?_
          refine bt_get3 (c' := 8) (n := 29) dX6_works_73 fl_X6_59 (by first | assumption | exact J.v3 | exact J.v4 | exact J.v5 | exact J.v6 | exact J.l0 | exact J.l1 | exact J.l2 | exact J.l3 | exact J.row (by assumption) | exact J.ops (by assumption) | exact J.job (by assumption)) ⟨rfl, rfl, rfl⟩ (by decide) ?_
          refine bq_iload_n (i := 3) dX6_works_76 rfl ?_
          refine bq_iload (i := 4) dX6_works_77 rfl ?_
          refine bt_iast0 (n := 29) (j := p) dX6_works_79 J.a29 rfl (by omega) (by decide) rfl ?_
          refine bq_iinc dX6_works_80 rfl (by decide) (by first | exact bp_inc _ | rfl) ?_
          refine bq_goto (tgt := 25) dX6_works_83 (by decide) ?_
          refine bq_lvs (lv' := [(0, .ref (bt_ad α 6 0)), (1, .int _), (2, .int rd), (3, .int (nI (p + 1)))]) ⟨rfl, rfl, rfl, rfl, trivial⟩ ?_
          exact ih (p + 1) _ _ (by omega) (hL.ext (fun i k hi => b_gs_ne (by omega))) kk
set_option maxRecDepth 100000 in
set_option maxHeartbeats 400000 in
theorem n_works_o {G : bp_X} {α : bt_A} {σ : bt_X} (J : m_J α) (hK : m_K σ) {Φ : bp_O → bq_O → Prop} : ∀ (n r : Nat) (ch : Int32) (x : bt_X), n + r = 33 → m_L x →
    bq_W G mX6_works 3 89 [(0, .ref (bt_ad α 6 0)), (1, .int (m_wkL σ n ch x).1)] [] (bt α σ (m_wkL σ n ch x).2) Φ → bq_W G mX6_works 3 8 [(0, .ref (bt_ad α 6 0)), (1, .int ch), (2, .int (nI r))] [] (bt α σ x) Φ := by
  intro n
  induction n with
  | zero =>
    intro r ch x hr hL kk
    unfold m_wkL at kk
    refine bq_iload_n (i := 1) dX6_works_8 rfl ?_
    refine bq_if_eq (tgt := 89) dX6_works_9 (by decide) (fun c_9 => ?_) (fun c_9 => ?_)
    · refine bq_lvs (lv' := [(0, .ref (bt_ad α 6 0)), (1, .int ch)]) ⟨rfl, rfl, trivial⟩ ?_
      exact kk
    · refine bq_iload_n (i := 2) dX6_works_12 rfl ?_
      refine bq_bipush (v := (nI 32)) dX6_works_13 (by decide) ?_
      refine bq_icmp_gt (tgt := 89) dX6_works_15 (by decide) (fun c_15 => ?_) (fun z9_ => absurd (show nI 32 < nI r from nI_lt (by omega) (by omega)) z9_)
      refine bq_lvs (lv' := [(0, .ref (bt_ad α 6 0)), (1, .int ch)]) ⟨rfl, rfl, trivial⟩ ?_
      exact kk
  | succ n ih =>
    intro r ch x hr hL kk
    unfold m_wkL at kk
    refine bq_iload_n (i := 1) dX6_works_8 rfl ?_
    refine bq_if_eq (tgt := 89) dX6_works_9 (by decide) (fun c_9 => ?_) (fun c_9 => ?_)
    · rw [if_pos c_9] at kk
      refine bq_lvs (lv' := [(0, .ref (bt_ad α 6 0)), (1, .int ch)]) ⟨rfl, rfl, trivial⟩ ?_
      exact kk
    · rw [if_neg c_9] at kk
      refine bq_iload_n (i := 2) dX6_works_12 rfl ?_
      refine bq_bipush (v := (nI 32)) dX6_works_13 (by decide) ?_
      refine bq_icmp_gt (tgt := 89) dX6_works_15 (by decide) (fun z9_ => absurd z9_ (show ¬ nI 32 < nI r from nI_nlt (by omega) (by omega))) (fun c_15 => ?_)
      refine bq_iconst (v := (nI 0)) dX6_works_18 (by decide) ?_
      refine bq_istore_n (i := 1) dX6_works_19 (by decide) ?_
      refine bq_iinc dX6_works_20 rfl (by decide) (by first | exact bp_inc _ | rfl) ?_
      refine bq_iconst (v := (nI 0)) dX6_works_23 (by decide) ?_
      refine bq_istore_n (i := 3) dX6_works_24 (by decide) ?_
      refine bq_lvs (lv' := [(0, .ref (bt_ad α 6 0)), (1, .int (nI 0)), (2, .int (nI (r + 1))), (3, .int (nI 0))]) ⟨rfl, rfl, rfl, rfl, trivial⟩ ?_
      refine n_works_p J hK m_32 0 (nI 0) x m_32_e hL ?_
      refine bq_goto (tgt := 8) dX6_works_86 (by decide) ?_
      exact ih (r + 1) _ _ (by omega) (hL.ext (fun i k hi => m_rd_n (by omega) _ _ _ _)) kk
set_option maxRecDepth 100000 in
set_option maxHeartbeats 400000 in
theorem n_works {G : bp_X} {α : bt_A} {σ x : bt_X} (J : m_J α) (hN : m_Nn σ) (hK : m_K σ) (hR : m_Rw x) : bq_S G mX6_works 3 [.ref (bt_ad α 6 0)] (bt α σ x) (bq_ret (some (.int (m_wOk σ x))) (bt α σ (m_wS σ x))) := by
  refine bq_ofW (by decide +kernel) rfl (Nat.le_of_ble_eq_true rfl) ?_
  unfold m_wOk m_wS m_wk
  refine bq_aload_n (i := 0) dX6_works_0 rfl ?_
  refine bt_callVr (c := 6) (i := 0) dX6_works_1 rfl ml_X6_99 (by first | assumption | exact J.v3 | exact J.v4 | exact J.v5 | exact J.v6 | exact J.l0 | exact J.l1 | exact J.l2 | exact J.l3 | exact J.row (by assumption) | exact J.ops (by assumption) | exact J.job (by assumption)) (by decide) (n_lays J hN hR) (by decide) (by decide) (Nat.le_of_ble_eq_true rfl) rfl ?_
  refine bq_iconst (v := (nI 1)) dX6_works_4 (by decide) ?_
  refine bq_istore_n (i := 1) dX6_works_5 (by decide) ?_
  refine bq_iconst (v := (nI 0)) dX6_works_6 (by decide) ?_
  refine bq_istore_n (i := 2) dX6_works_7 (by decide) ?_
  refine bq_lvs (lv' := [(0, .ref (bt_ad α 6 0)), (1, .int (nI 1)), (2, .int (nI 0))]) ⟨rfl, rfl, rfl, trivial⟩ ?_
  refine n_works_o J hK m_33 0 (nI 1) (m_lays σ x) m_33_e (m_lays_L hN hR) ?_
  refine bq_iload_n (i := 1) dX6_works_89 rfl ?_
  refine bq_if_ne (tgt := 97) dX6_works_90 (by decide) (fun c_90 => ?_) (fun c_90 => ?_)
  · rw [if_neg c_90]
    refine bq_iconst (v := (nI 0)) dX6_works_97 (by decide) ?_
    exact bq_iret dX6_works_98 rfl (by first | rfl | decide) bq_ret_i
  · rw [if_pos c_90]
    refine bq_iconst (v := (nI 1)) dX6_works_93 (by decide) ?_
    refine bq_goto (tgt := 98) dX6_works_94 (by decide) ?_
    exact bq_iret dX6_works_98 rfl (by first | rfl | decide) bq_ret_i
def m_spn (σ x : bt_X) : Nat → Nat → Int32 → Int32
  | 0, _, s => s
  | n + 1, p, s => m_spn σ x n (p + 1) (if x.1 8 26 p = 0 then s else if m_fin σ x p ≤ s then s else m_fin σ x p)
noncomputable def m_span (σ x : bt_X) : Int32 := m_spn σ x m_32 0 (nI 0)
noncomputable def m_spanOf (σ x : bt_X) : Int32 := m_span σ (m_wS σ x)
set_option maxRecDepth 100000 in
set_option maxHeartbeats 400000 in
theorem n_spn_l {G : bp_X} {α : bt_A} {σ x : bt_X} (J : m_J α) : ∀ (n p : Nat) (s : Int32), n + p = 32 → bq_W G mX6_spanNow 1 4 [(0, .ref (bt_ad α 6 0)), (1, .int s), (2, .int (nI p))] [] (bt α σ x) (bq_ret (some (.int (m_spn σ x n p s))) (bt α σ x)) := by
  intro n
  induction n with
  | zero =>
    intro p s hp
    unfold m_spn
    refine bq_iload_n (i := 2) dX6_spanNow_4 rfl ?_
    refine bq_bipush (v := (nI 32)) dX6_spanNow_5 (by decide) ?_
    refine bq_icmp_ge (tgt := 44) dX6_spanNow_7 (by decide) (fun c_7 => ?_) (fun z9_ => absurd (show nI 32 ≤ nI p from nI_le (by omega) (by omega)) z9_)
    refine bq_iload_n (i := 1) dX6_spanNow_44 rfl ?_
    exact bq_iret dX6_spanNow_45 rfl (by first | rfl | decide) bq_ret_i
  | succ n ih =>
    intro p s hp
    unfold m_spn
    refine bq_iload_n (i := 2) dX6_spanNow_4 rfl ?_
    refine bq_bipush (v := (nI 32)) dX6_spanNow_5 (by decide) ?_
    refine bq_icmp_ge (tgt := 44) dX6_spanNow_7 (by decide) (fun z9_ => absurd z9_ (show ¬ nI 32 ≤ nI p from nI_ge (by omega) (by omega))) (fun c_7 => ?_)
    refine bq_aload_n (i := 0) dX6_spanNow_10 rfl ?_
    refine bt_get3 (c' := 8) (n := 26) dX6_spanNow_11 fl_X6_50 (by first | assumption | exact J.v3 | exact J.v4 | exact J.v5 | exact J.v6 | exact J.l0 | exact J.l1 | exact J.l2 | exact J.l3 | exact J.row (by assumption) | exact J.ops (by assumption) | exact J.job (by assumption)) ⟨rfl, rfl, rfl⟩ (by decide) ?_
    refine bq_iload_n (i := 2) dX6_spanNow_14 rfl ?_
    refine bt_zald0 (n := 26) (j := p) dX6_spanNow_15 J.a26 rfl (by omega) (by decide) rfl ?_
    refine bq_if_eq (tgt := 36) dX6_spanNow_16 (by decide) (fun c_16 => ?_) (fun c_16 => ?_)
    · rw [if_pos c_16]
      refine bq_iload_n (i := 1) dX6_spanNow_36 rfl ?_
      refine bq_istore_n (i := 1) dX6_spanNow_37 (by decide) ?_
      refine bq_iinc dX6_spanNow_38 rfl (by decide) (by first | exact bp_inc _ | rfl) ?_
      refine bq_goto (tgt := 4) dX6_spanNow_41 (by decide) ?_
      refine bq_lvs (lv' := [(0, .ref (bt_ad α 6 0)), (1, .int _), (2, .int (nI (p + 1)))]) ⟨rfl, rfl, rfl, trivial⟩ ?_
      exact ih (p + 1) _ (by omega)
    · rw [if_neg c_16]
      refine bq_aload_n (i := 0) dX6_spanNow_19 rfl ?_
      refine bq_iload_n (i := 2) dX6_spanNow_20 rfl ?_
      refine bt_callVr (c := 6) (i := 0) dX6_spanNow_21 rfl ml_X6_92 (by first | assumption | exact J.v3 | exact J.v4 | exact J.v5 | exact J.v6 | exact J.l0 | exact J.l1 | exact J.l2 | exact J.l3 | exact J.row (by assumption) | exact J.ops (by assumption) | exact J.job (by assumption)) (by decide) (n_finish J (by omega)) (by decide) (by decide) (Nat.le_of_ble_eq_true rfl) rfl ?_
      refine bq_iload_n (i := 1) dX6_spanNow_24 rfl ?_
      refine bq_icmp_le (tgt := 36) dX6_spanNow_25 (by decide) (fun c_25 => ?_) (fun c_25 => ?_)
      · rw [if_pos c_25]
        refine bq_iload_n (i := 1) dX6_spanNow_36 rfl ?_
        refine bq_istore_n (i := 1) dX6_spanNow_37 (by decide) ?_
        refine bq_iinc dX6_spanNow_38 rfl (by decide) (by first | exact bp_inc _ | rfl) ?_
        refine bq_goto (tgt := 4) dX6_spanNow_41 (by decide) ?_
        refine bq_lvs (lv' := [(0, .ref (bt_ad α 6 0)), (1, .int _), (2, .int (nI (p + 1)))]) ⟨rfl, rfl, rfl, trivial⟩ ?_
        exact ih (p + 1) _ (by omega)
      · rw [if_neg c_25]
        refine bq_aload_n (i := 0) dX6_spanNow_28 rfl ?_
        refine bq_iload_n (i := 2) dX6_spanNow_29 rfl ?_
        refine bt_callVr (c := 6) (i := 0) dX6_spanNow_30 rfl ml_X6_92 (by first | assumption | exact J.v3 | exact J.v4 | exact J.v5 | exact J.v6 | exact J.l0 | exact J.l1 | exact J.l2 | exact J.l3 | exact J.row (by assumption) | exact J.ops (by assumption) | exact J.job (by assumption)) (by decide) (n_finish J (by omega)) (by decide) (by decide) (Nat.le_of_ble_eq_true rfl) rfl ?_
        refine bq_goto (tgt := 37) dX6_spanNow_33 (by decide) ?_
        refine bq_istore_n (i := 1) dX6_spanNow_37 (by decide) ?_
        refine bq_iinc dX6_spanNow_38 rfl (by decide) (by first | exact bp_inc _ | rfl) ?_
        refine bq_goto (tgt := 4) dX6_spanNow_41 (by decide) ?_
        refine bq_lvs (lv' := [(0, .ref (bt_ad α 6 0)), (1, .int _), (2, .int (nI (p + 1)))]) ⟨rfl, rfl, rfl, trivial⟩ ?_
        exact ih (p + 1) _ (by omega)
set_option maxRecDepth 100000 in
set_option maxHeartbeats 400000 in
theorem n_span {G : bp_X} {α : bt_A} {σ x : bt_X}  (J : m_J α)  : bq_S G mX6_spanNow 1 [.ref (bt_ad α 6 0)] (bt α σ x) (bq_ret (some (.int (m_span σ x))) (bt α σ x)) := by
  refine bq_ofW (by decide +kernel) rfl (Nat.le_of_ble_eq_true rfl) ?_
  refine bq_iconst (v := (nI 0)) dX6_spanNow_0 (by decide) ?_
  refine bq_istore_n (i := 1) dX6_spanNow_1 (by decide) ?_
  refine bq_iconst (v := (nI 0)) dX6_spanNow_2 (by decide) ?_
  refine bq_istore_n (i := 2) dX6_spanNow_3 (by decide) ?_
  refine bq_lvs (lv' := [(0, .ref (bt_ad α 6 0)), (1, .int (nI 0)), (2, .int (nI 0))]) ⟨rfl, rfl, rfl, trivial⟩ ?_
  exact n_spn_l J m_32 0 (nI 0) m_32_e
set_option maxRecDepth 100000 in
set_option maxHeartbeats 400000 in
theorem n_spanOf {G : bp_X} {α : bt_A} {σ x : bt_X}  (J : m_J α) (hN : m_Nn σ) (hK : m_K σ) (hR : m_Rw x) : bq_S G mX6_spanOf 4 [.ref (bt_ad α 6 0)] (bt α σ x) (bq_ret (some (.int (m_spanOf σ x))) (bt α σ (m_wS σ x))) := by
  refine bq_ofW (by decide +kernel) rfl (Nat.le_of_ble_eq_true rfl) ?_
  refine bq_aload_n (i := 0) dX6_spanOf_0 rfl ?_
  refine bt_callVr (c := 6) (i := 0) dX6_spanOf_1 rfl ml_X6_105 (by first | assumption | exact J.v3 | exact J.v4 | exact J.v5 | exact J.v6 | exact J.l0 | exact J.l1 | exact J.l2 | exact J.l3 | exact J.row (by assumption) | exact J.ops (by assumption) | exact J.job (by assumption)) (by decide) (n_works J hN hK hR) (by decide) (by decide) (Nat.le_of_ble_eq_true rfl) rfl ?_
  refine bq_pop dX6_spanOf_4 rfl ?_
  refine bq_aload_n (i := 0) dX6_spanOf_5 rfl ?_
  refine bt_callVr (c := 6) (i := 0) dX6_spanOf_6 rfl ml_X6_109 (by first | assumption | exact J.v3 | exact J.v4 | exact J.v5 | exact J.v6 | exact J.l0 | exact J.l1 | exact J.l2 | exact J.l3 | exact J.row (by assumption) | exact J.ops (by assumption) | exact J.job (by assumption)) (by decide) (n_span J) (by decide) (by decide) (Nat.le_of_ble_eq_true rfl) rfl ?_
  exact bq_iret dX6_spanOf_9 rfl (by first | rfl | decide) bq_ret_i
def m_ls1 (x : bt_X) (p : Nat) (s : Int32) : Int32 := match m_aft x p with
  | none => s
  | some q => if s ≤ x.1 8 30 q then s else x.1 8 30 q
def m_oth (σ x : bt_X) (p q : Nat) : Int32 := x.1 8 30 q - m_su σ (m_fm σ p) (m_fm σ q)
def m_ls2 (σ x : bt_X) (p : Nat) (s : Int32) : Int32 := match m_opt (x.1 8 28 p) with
  | none => s
  | some q => if s ≤ m_oth σ x p q then s else m_oth σ x p q
def m_ls3 (σ : bt_X) (p : Nat) (t : Int32) : Int32 := if σ.1 8 14 (m_mc σ p) ≤ t then t else if t + σ.1 8 22 p ≤ σ.1 8 13 (m_mc σ p) then t else σ.1 8 13 (m_mc σ p) - σ.1 8 22 p
def m_las (σ x : bt_X) (p : Nat) (s : Int32) : Int32 := m_ls3 σ p (m_ls2 σ x p (m_ls1 x p s) - σ.1 8 22 p)
set_option maxRecDepth 100000 in
set_option maxHeartbeats 400000 in
theorem n_lasts3 {G : bp_X} {α : bt_A} {σ x : bt_X} {p : Nat} {s : Int32} (J : m_J α) (hK : m_K σ) (hp : p < 32) : bq_W G mX6_lasts 2 106 [(0, .ref (bt_ad α 6 0)), (1, .int (nI p)), (3, .int (nI (m_mc σ p))), (4, .int s)] [] (bt α σ x) (bq_ret (some (.int (m_ls3 σ p (s - σ.1 8 22 p)))) (bt α σ x)) := by
  have hm := (m_mc_e hK hp).2
  unfold m_ls3
  refine bq_iload (i := 4) dX6_lasts_106 rfl ?_
  refine bq_aload_n (i := 0) dX6_lasts_108 rfl ?_
  refine bt_get3 (c' := 8) (n := 22) dX6_lasts_109 fl_X6_38 (by first | assumption | exact J.v3 | exact J.v4 | exact J.v5 | exact J.v6 | exact J.l0 | exact J.l1 | exact J.l2 | exact J.l3 | exact J.row (by assumption) | exact J.ops (by assumption) | exact J.job (by assumption)) ⟨rfl, rfl, rfl⟩ (by decide) ?_
  refine bq_iload_n (i := 1) dX6_lasts_112 rfl ?_
  refine bt_iald4 (n := 22) (j := p) dX6_lasts_113 J.a22 rfl (by omega) (by decide) rfl ?_
  refine bq_isub dX6_lasts_114 ?_
  refine bq_istore (i := 4) dX6_lasts_115 (by decide) ?_
  refine bq_iload (i := 4) dX6_lasts_117 rfl ?_
  refine bq_aload_n (i := 0) dX6_lasts_119 rfl ?_
  refine bt_get3 (c' := 8) (n := 14) dX6_lasts_120 fl_X6_16 (by first | assumption | exact J.v3 | exact J.v4 | exact J.v5 | exact J.v6 | exact J.l0 | exact J.l1 | exact J.l2 | exact J.l3 | exact J.row (by assumption) | exact J.ops (by assumption) | exact J.job (by assumption)) ⟨rfl, rfl, rfl⟩ (by decide) ?_
  refine bq_iload_n (i := 3) dX6_lasts_123 rfl ?_
  refine bt_iald4 (n := 14) (j := (m_mc σ p)) dX6_lasts_124 J.a14 rfl (by omega) (by decide) rfl ?_
  refine bq_icmp_ge (tgt := 162) dX6_lasts_125 (by decide) (fun c_125 => ?_) (fun c_125 => ?_)
  · rw [if_pos c_125]
    refine bq_iload (i := 4) dX6_lasts_162 rfl ?_
    exact bq_iret dX6_lasts_164 rfl (by first | rfl | decide) bq_ret_i
  · rw [if_neg c_125]
    refine bq_iload (i := 4) dX6_lasts_128 rfl ?_
    refine bq_aload_n (i := 0) dX6_lasts_130 rfl ?_
    refine bt_get3 (c' := 8) (n := 22) dX6_lasts_131 fl_X6_38 (by first | assumption | exact J.v3 | exact J.v4 | exact J.v5 | exact J.v6 | exact J.l0 | exact J.l1 | exact J.l2 | exact J.l3 | exact J.row (by assumption) | exact J.ops (by assumption) | exact J.job (by assumption)) ⟨rfl, rfl, rfl⟩ (by decide) ?_
    refine bq_iload_n (i := 1) dX6_lasts_134 rfl ?_
    refine bt_iald4 (n := 22) (j := p) dX6_lasts_135 J.a22 rfl (by omega) (by decide) rfl ?_
    refine bq_iadd dX6_lasts_136 ?_
    refine bq_aload_n (i := 0) dX6_lasts_137 rfl ?_
    refine bt_get3 (c' := 8) (n := 13) dX6_lasts_138 fl_X6_13 (by first | assumption | exact J.v3 | exact J.v4 | exact J.v5 | exact J.v6 | exact J.l0 | exact J.l1 | exact J.l2 | exact J.l3 | exact J.row (by assumption) | exact J.ops (by assumption) | exact J.job (by assumption)) ⟨rfl, rfl, rfl⟩ (by decide) ?_
    refine bq_iload_n (i := 3) dX6_lasts_141 rfl ?_
    refine bt_iald4 (n := 13) (j := (m_mc σ p)) dX6_lasts_142 J.a13 rfl (by omega) (by decide) rfl ?_
    refine bq_icmp_le (tgt := 162) dX6_lasts_143 (by decide) (fun c_143 => ?_) (fun c_143 => ?_)
    · rw [if_pos c_143]
      refine bq_iload (i := 4) dX6_lasts_162 rfl ?_
      exact bq_iret dX6_lasts_164 rfl (by first | rfl | decide) bq_ret_i
    · rw [if_neg c_143]
      refine bq_aload_n (i := 0) dX6_lasts_146 rfl ?_
      refine bt_get3 (c' := 8) (n := 13) dX6_lasts_147 fl_X6_13 (by first | assumption | exact J.v3 | exact J.v4 | exact J.v5 | exact J.v6 | exact J.l0 | exact J.l1 | exact J.l2 | exact J.l3 | exact J.row (by assumption) | exact J.ops (by assumption) | exact J.job (by assumption)) ⟨rfl, rfl, rfl⟩ (by decide) ?_
      refine bq_iload_n (i := 3) dX6_lasts_150 rfl ?_
      refine bt_iald4 (n := 13) (j := (m_mc σ p)) dX6_lasts_151 J.a13 rfl (by omega) (by decide) rfl ?_
      refine bq_aload_n (i := 0) dX6_lasts_152 rfl ?_
      refine bt_get3 (c' := 8) (n := 22) dX6_lasts_153 fl_X6_38 (by first | assumption | exact J.v3 | exact J.v4 | exact J.v5 | exact J.v6 | exact J.l0 | exact J.l1 | exact J.l2 | exact J.l3 | exact J.row (by assumption) | exact J.ops (by assumption) | exact J.job (by assumption)) ⟨rfl, rfl, rfl⟩ (by decide) ?_
      refine bq_iload_n (i := 1) dX6_lasts_156 rfl ?_
      refine bt_iald4 (n := 22) (j := p) dX6_lasts_157 J.a22 rfl (by omega) (by decide) rfl ?_
      refine bq_isub dX6_lasts_158 ?_
      refine bq_goto (tgt := 164) dX6_lasts_159 (by decide) ?_
      exact bq_iret dX6_lasts_164 rfl (by first | rfl | decide) bq_ret_i
set_option maxRecDepth 100000 in
set_option maxHeartbeats 400000 in
theorem n_lasts2 {G : bp_X} {α : bt_A} {σ x : bt_X} {p : Nat} {s : Int32} (hL : m_L x) (J : m_J α) (hK : m_K σ) (hp : p < 32) : bq_W G mX6_lasts 2 45 [(0, .ref (bt_ad α 6 0)), (1, .int (nI p)), (3, .int (nI (m_mc σ p))), (4, .int s)] [] (bt α σ x) (bq_ret (some (.int (m_ls3 σ p (m_ls2 σ x p s - σ.1 8 22 p)))) (bt α σ x)) := by
  have hm := (m_mc_e hK hp).2
  obtain ⟨f1, f2⟩ := m_fm_e hK hp
  have hl := (hL p hp).2
  have e28 := m_opt_i hl
  cases h : m_opt (x.1 8 28 p) with
  | none =>
    rw [h] at e28
    rw [show m_ls2 σ x p s = s by unfold m_ls2; rw [h]]
    refine bq_aload_n (i := 0) dX6_lasts_45 rfl ?_
    refine bt_get3 (c' := 8) (n := 28) dX6_lasts_46 fl_X6_56 (by first | assumption | exact J.v3 | exact J.v4 | exact J.v5 | exact J.v6 | exact J.l0 | exact J.l1 | exact J.l2 | exact J.l3 | exact J.row (by assumption) | exact J.ops (by assumption) | exact J.job (by assumption)) ⟨rfl, rfl, rfl⟩ (by decide) ?_
    refine bq_iload_n (i := 1) dX6_lasts_49 rfl ?_
    refine bt_iald0 (n := 28) (j := p) dX6_lasts_50 J.a28 rfl (by omega) (by decide) rfl ?_
    rw [e28]
    refine bq_iconst (v := (-1 : Int32)) dX6_lasts_51 (by decide) ?_
    refine bq_icmp_eq (tgt := 106) dX6_lasts_52 (by decide) (fun c_52 => ?_) (fun z9_ => absurd (show m_oi none = (-1 : Int32) from rfl) z9_)
    refine bq_lvs (lv' := [(0, .ref (bt_ad α 6 0)), (1, .int (nI p)), (3, .int (nI (m_mc σ p))), (4, .int _)]) ⟨rfl, rfl, rfl, rfl, trivial⟩ ?_
    exact n_lasts3 J hK hp
  | some q =>
    rw [h] at e28
    have hq := m_opt_l hl h
    obtain ⟨g1, g2⟩ := m_fm_e hK hq
    rw [show m_ls2 σ x p s = if s ≤ m_oth σ x p q then s else m_oth σ x p q by unfold m_ls2; rw [h]]
    refine bq_aload_n (i := 0) dX6_lasts_45 rfl ?_
    refine bt_get3 (c' := 8) (n := 28) dX6_lasts_46 fl_X6_56 (by first | assumption | exact J.v3 | exact J.v4 | exact J.v5 | exact J.v6 | exact J.l0 | exact J.l1 | exact J.l2 | exact J.l3 | exact J.row (by assumption) | exact J.ops (by assumption) | exact J.job (by assumption)) ⟨rfl, rfl, rfl⟩ (by decide) ?_
    refine bq_iload_n (i := 1) dX6_lasts_49 rfl ?_
    refine bt_iald0 (n := 28) (j := p) dX6_lasts_50 J.a28 rfl (by omega) (by decide) rfl ?_
    rw [e28]
    refine bq_iconst (v := (-1 : Int32)) dX6_lasts_51 (by decide) ?_
    refine bq_icmp_eq (tgt := 106) dX6_lasts_52 (by decide) (fun z9_ => absurd z9_ (show ¬ m_oi (some q) = (-1 : Int32) from m_nI_ne (by omega))) (fun c_52 => ?_)
    refine bq_aload_n (i := 0) dX6_lasts_55 rfl ?_
    refine bt_get3 (c' := 8) (n := 30) dX6_lasts_56 fl_X6_62 (by first | assumption | exact J.v3 | exact J.v4 | exact J.v5 | exact J.v6 | exact J.l0 | exact J.l1 | exact J.l2 | exact J.l3 | exact J.row (by assumption) | exact J.ops (by assumption) | exact J.job (by assumption)) ⟨rfl, rfl, rfl⟩ (by decide) ?_
    refine bq_aload_n (i := 0) dX6_lasts_59 rfl ?_
    refine bt_get3 (c' := 8) (n := 28) dX6_lasts_60 fl_X6_56 (by first | assumption | exact J.v3 | exact J.v4 | exact J.v5 | exact J.v6 | exact J.l0 | exact J.l1 | exact J.l2 | exact J.l3 | exact J.row (by assumption) | exact J.ops (by assumption) | exact J.job (by assumption)) ⟨rfl, rfl, rfl⟩ (by decide) ?_
    refine bq_iload_n (i := 1) dX6_lasts_63 rfl ?_
    refine bt_iald0 (n := 28) (j := p) dX6_lasts_64 J.a28 rfl (by omega) (by decide) rfl ?_
    rw [e28]
    refine bt_iald0 (n := 30) (j := q) dX6_lasts_65 J.a30 rfl (by omega) (by decide) rfl ?_
    refine bq_aload_n (i := 0) dX6_lasts_66 rfl ?_
    refine bq_aload_n (i := 0) dX6_lasts_67 rfl ?_
    refine bt_get3 (c' := 8) (n := 23) dX6_lasts_68 fl_X6_41 (by first | assumption | exact J.v3 | exact J.v4 | exact J.v5 | exact J.v6 | exact J.l0 | exact J.l1 | exact J.l2 | exact J.l3 | exact J.row (by assumption) | exact J.ops (by assumption) | exact J.job (by assumption)) ⟨rfl, rfl, rfl⟩ (by decide) ?_
    refine bq_iload_n (i := 1) dX6_lasts_71 rfl ?_
    refine bt_iald4 (n := 23) (j := p) dX6_lasts_72 J.a23 rfl (by omega) (by decide) rfl ?_
    rw [f1]
    refine bq_aload_n (i := 0) dX6_lasts_73 rfl ?_
    refine bt_get3 (c' := 8) (n := 23) dX6_lasts_74 fl_X6_41 (by first | assumption | exact J.v3 | exact J.v4 | exact J.v5 | exact J.v6 | exact J.l0 | exact J.l1 | exact J.l2 | exact J.l3 | exact J.row (by assumption) | exact J.ops (by assumption) | exact J.job (by assumption)) ⟨rfl, rfl, rfl⟩ (by decide) ?_
    refine bq_aload_n (i := 0) dX6_lasts_77 rfl ?_
    refine bt_get3 (c' := 8) (n := 28) dX6_lasts_78 fl_X6_56 (by first | assumption | exact J.v3 | exact J.v4 | exact J.v5 | exact J.v6 | exact J.l0 | exact J.l1 | exact J.l2 | exact J.l3 | exact J.row (by assumption) | exact J.ops (by assumption) | exact J.job (by assumption)) ⟨rfl, rfl, rfl⟩ (by decide) ?_
    refine bq_iload_n (i := 1) dX6_lasts_81 rfl ?_
    refine bt_iald0 (n := 28) (j := p) dX6_lasts_82 J.a28 rfl (by omega) (by decide) rfl ?_
    rw [e28]
    refine bt_iald4 (n := 23) (j := q) dX6_lasts_83 J.a23 rfl (by omega) (by decide) rfl ?_
    rw [g1]
    refine bt_callVr (c := 6) (i := 0) dX6_lasts_84 rfl ml_X6_96 (by first | assumption | exact J.v3 | exact J.v4 | exact J.v5 | exact J.v6 | exact J.l0 | exact J.l1 | exact J.l2 | exact J.l3 | exact J.row (by assumption) | exact J.ops (by assumption) | exact J.job (by assumption)) (by decide) (n_setup J f2 g2) (by decide) (by decide) (Nat.le_of_ble_eq_true rfl) rfl ?_
    refine bq_isub dX6_lasts_87 ?_
    refine bq_istore (i := 6) dX6_lasts_88 (by decide) ?_
    refine bq_iload (i := 6) dX6_lasts_90 rfl ?_
    refine bq_iload (i := 4) dX6_lasts_92 rfl ?_
    refine bq_icmp_ge (tgt := 102) dX6_lasts_94 (by decide) (fun c_94 => ?_) (fun c_94 => ?_)
    · rw [if_pos (show s ≤ m_oth σ x p q from c_94)]
      refine bq_iload (i := 4) dX6_lasts_102 rfl ?_
      refine bq_istore (i := 4) dX6_lasts_104 (by decide) ?_
      refine bq_lvs (lv' := [(0, .ref (bt_ad α 6 0)), (1, .int (nI p)), (3, .int (nI (m_mc σ p))), (4, .int _)]) ⟨rfl, rfl, rfl, rfl, trivial⟩ ?_
      exact n_lasts3 J hK hp
    · rw [if_neg (show ¬ s ≤ m_oth σ x p q from c_94)]
      refine bq_iload (i := 6) dX6_lasts_97 rfl ?_
      refine bq_goto (tgt := 104) dX6_lasts_99 (by decide) ?_
      refine bq_istore (i := 4) dX6_lasts_104 (by decide) ?_
      refine bq_lvs (lv' := [(0, .ref (bt_ad α 6 0)), (1, .int (nI p)), (3, .int (nI (m_mc σ p))), (4, .int _)]) ⟨rfl, rfl, rfl, rfl, trivial⟩ ?_
      exact n_lasts3 J hK hp
set_option maxRecDepth 100000 in
set_option maxHeartbeats 400000 in
theorem n_lasts {G : bp_X} {α : bt_A} {σ x : bt_X} {p : Nat} {s : Int32} (J : m_J α) (hK : m_K σ) (hL : m_L x) (hp : p < 32) : bq_S G mX6_lasts 2 [.ref (bt_ad α 6 0), .int (nI p), .int s] (bt α σ x) (bq_ret (some (.int (m_las σ x p s))) (bt α σ x)) := by
  refine bq_ofW (by decide +kernel) rfl (Nat.le_of_ble_eq_true rfl) ?_
  obtain ⟨f1, f2⟩ := m_mc_e hK hp
  unfold m_las
  cases h : m_aft x p with
  | none =>
    rw [show m_ls1 x p s = s by unfold m_ls1; rw [h]]
    refine bq_aload_n (i := 0) dX6_lasts_0 rfl ?_
    refine bt_get3 (c' := 8) (n := 21) dX6_lasts_1 fl_X6_35 (by first | assumption | exact J.v3 | exact J.v4 | exact J.v5 | exact J.v6 | exact J.l0 | exact J.l1 | exact J.l2 | exact J.l3 | exact J.row (by assumption) | exact J.ops (by assumption) | exact J.job (by assumption)) ⟨rfl, rfl, rfl⟩ (by decide) ?_
    refine bq_iload_n (i := 1) dX6_lasts_4 rfl ?_
    refine bt_iald4 (n := 21) (j := p) dX6_lasts_5 J.a21 rfl (by omega) (by decide) rfl ?_
    rw [f1]
    refine bq_istore_n (i := 3) dX6_lasts_6 (by decide) ?_
    refine bq_iload_n (i := 2) dX6_lasts_7 rfl ?_
    refine bq_istore (i := 4) dX6_lasts_8 (by decide) ?_
    refine bq_aload_n (i := 0) dX6_lasts_10 rfl ?_
    refine bq_iload_n (i := 1) dX6_lasts_11 rfl ?_
    refine bq_iconst (v := (nI 1)) dX6_lasts_12 (by decide) ?_
    refine bt_callVr (c := 6) (i := 0) dX6_lasts_13 rfl ml_X6_88 (by first | assumption | exact J.v3 | exact J.v4 | exact J.v5 | exact J.v6 | exact J.l0 | exact J.l1 | exact J.l2 | exact J.l3 | exact J.row (by assumption) | exact J.ops (by assumption) | exact J.job (by assumption)) (by decide) (n_aft J hp) (by decide) (by decide) (Nat.le_of_ble_eq_true rfl) rfl ?_
    rw [h]
    refine bq_istore (i := 5) dX6_lasts_16 (by decide) ?_
    refine bq_iload (i := 5) dX6_lasts_18 rfl ?_
    refine bq_iconst (v := (-1 : Int32)) dX6_lasts_20 (by decide) ?_
    refine bq_icmp_eq (tgt := 45) dX6_lasts_21 (by decide) (fun c_21 => ?_) (fun z9_ => absurd (show m_oi none = (-1 : Int32) from rfl) z9_)
    refine bq_lvs (lv' := [(0, .ref (bt_ad α 6 0)), (1, .int (nI p)), (3, .int (nI (m_mc σ p))), (4, .int _)]) ⟨rfl, rfl, rfl, rfl, trivial⟩ ?_
    exact n_lasts2 hL J hK hp
  | some q =>
    have hq := (m_aft_l hp h).2
    rw [show m_ls1 x p s = if s ≤ x.1 8 30 q then s else x.1 8 30 q by unfold m_ls1; rw [h]]
    refine bq_aload_n (i := 0) dX6_lasts_0 rfl ?_
    refine bt_get3 (c' := 8) (n := 21) dX6_lasts_1 fl_X6_35 (by first | assumption | exact J.v3 | exact J.v4 | exact J.v5 | exact J.v6 | exact J.l0 | exact J.l1 | exact J.l2 | exact J.l3 | exact J.row (by assumption) | exact J.ops (by assumption) | exact J.job (by assumption)) ⟨rfl, rfl, rfl⟩ (by decide) ?_
    refine bq_iload_n (i := 1) dX6_lasts_4 rfl ?_
    refine bt_iald4 (n := 21) (j := p) dX6_lasts_5 J.a21 rfl (by omega) (by decide) rfl ?_
    rw [f1]
    refine bq_istore_n (i := 3) dX6_lasts_6 (by decide) ?_
    refine bq_iload_n (i := 2) dX6_lasts_7 rfl ?_
    refine bq_istore (i := 4) dX6_lasts_8 (by decide) ?_
    refine bq_aload_n (i := 0) dX6_lasts_10 rfl ?_
    refine bq_iload_n (i := 1) dX6_lasts_11 rfl ?_
    refine bq_iconst (v := (nI 1)) dX6_lasts_12 (by decide) ?_
    refine bt_callVr (c := 6) (i := 0) dX6_lasts_13 rfl ml_X6_88 (by first | assumption | exact J.v3 | exact J.v4 | exact J.v5 | exact J.v6 | exact J.l0 | exact J.l1 | exact J.l2 | exact J.l3 | exact J.row (by assumption) | exact J.ops (by assumption) | exact J.job (by assumption)) (by decide) (n_aft J hp) (by decide) (by decide) (Nat.le_of_ble_eq_true rfl) rfl ?_
    rw [h]
    refine bq_istore (i := 5) dX6_lasts_16 (by decide) ?_
    refine bq_iload (i := 5) dX6_lasts_18 rfl ?_
    refine bq_iconst (v := (-1 : Int32)) dX6_lasts_20 (by decide) ?_
    refine bq_icmp_eq (tgt := 45) dX6_lasts_21 (by decide) (fun z9_ => absurd z9_ (show ¬ m_oi (some q) = (-1 : Int32) from m_nI_ne (by omega))) (fun c_21 => ?_)
    refine bq_aload_n (i := 0) dX6_lasts_24 rfl ?_
    refine bt_get3 (c' := 8) (n := 30) dX6_lasts_25 fl_X6_62 (by first | assumption | exact J.v3 | exact J.v4 | exact J.v5 | exact J.v6 | exact J.l0 | exact J.l1 | exact J.l2 | exact J.l3 | exact J.row (by assumption) | exact J.ops (by assumption) | exact J.job (by assumption)) ⟨rfl, rfl, rfl⟩ (by decide) ?_
    refine bq_iload (i := 5) dX6_lasts_28 rfl ?_
    refine bt_iald0 (n := 30) (j := q) dX6_lasts_30 J.a30 rfl (by omega) (by decide) rfl ?_
    refine bq_iload (i := 4) dX6_lasts_31 rfl ?_
    refine bq_icmp_ge (tgt := 45) dX6_lasts_33 (by decide) (fun c_33 => ?_) (fun c_33 => ?_)
    · rw [if_pos c_33]
      refine bq_lvs (lv' := [(0, .ref (bt_ad α 6 0)), (1, .int (nI p)), (3, .int (nI (m_mc σ p))), (4, .int _)]) ⟨rfl, rfl, rfl, rfl, trivial⟩ ?_
      exact n_lasts2 hL J hK hp
    · rw [if_neg c_33]
      refine bq_aload_n (i := 0) dX6_lasts_36 rfl ?_
      refine bt_get3 (c' := 8) (n := 30) dX6_lasts_37 fl_X6_62 (by first | assumption | exact J.v3 | exact J.v4 | exact J.v5 | exact J.v6 | exact J.l0 | exact J.l1 | exact J.l2 | exact J.l3 | exact J.row (by assumption) | exact J.ops (by assumption) | exact J.job (by assumption)) ⟨rfl, rfl, rfl⟩ (by decide) ?_
      refine bq_iload (i := 5) dX6_lasts_40 rfl ?_
      refine bt_iald0 (n := 30) (j := q) dX6_lasts_42 J.a30 rfl (by omega) (by decide) rfl ?_
      refine bq_istore (i := 4) dX6_lasts_43 (by decide) ?_
      refine bq_lvs (lv' := [(0, .ref (bt_ad α 6 0)), (1, .int (nI p)), (3, .int (nI (m_mc σ p))), (4, .int _)]) ⟨rfl, rfl, rfl, rfl, trivial⟩ ?_
      exact n_lasts2 hL J hK hp
def m_wbz : Nat → Nat → bt_X → bt_X
  | 0, _, x => x
  | n + 1, p, x => m_wbz n (p + 1) (bt_gs x 8 30 p (1000000 : Int32))
def m_wb1 (σ : bt_X) (s : Int32) : Nat → Nat → bt_X → bt_X
  | 0, _, x => x
  | n + 1, p, x => m_wb1 σ s n (p + 1) (bt_gs x 8 30 p (if x.1 8 26 p = 0 then (1000000 : Int32) else m_las σ x p s))
noncomputable def m_wbr (σ : bt_X) (s : Int32) : Nat → bt_X → bt_X
  | 0, x => x
  | n + 1, x => m_wbr σ s n (m_wb1 σ s m_32 0 x)
noncomputable def m_back (σ x : bt_X) : bt_X := m_wbr σ (m_spanOf σ x) m_33 (m_wbz m_32 0 (m_wS σ x))
theorem m_wbz_n {c i k : Nat} (h : ¬ (c = 8 ∧ i = 30)) : ∀ (n p : Nat) (x : bt_X), (m_wbz n p x).1 c i k = x.1 c i k := by
  intro n
  induction n with
  | zero => intro p x; rfl
  | succ n ih =>
    intro p x
    unfold m_wbz
    rw [ih, b_gs_ne (by omega)]
theorem m_wb1_n {σ : bt_X} {s : Int32} {c i k : Nat} (h : ¬ (c = 8 ∧ i = 30)) : ∀ (n p : Nat) (x : bt_X), (m_wb1 σ s n p x).1 c i k = x.1 c i k := by
  intro n
  induction n with
  | zero => intro p x; rfl
  | succ n ih =>
    intro p x
    unfold m_wb1
    rw [ih, b_gs_ne (by omega)]
theorem m_wbr_n {σ : bt_X} {s : Int32} {c i k : Nat} (h : ¬ (c = 8 ∧ i = 30)) : ∀ (n : Nat) (x : bt_X), (m_wbr σ s n x).1 c i k = x.1 c i k := by
  intro n
  induction n with
  | zero => intro x; rfl
  | succ n ih =>
    intro x
    unfold m_wbr
    rw [ih, m_wb1_n h]
theorem m_back_n {σ x : bt_X} {c i k : Nat} (h : ¬ (c = 8 ∧ 26 ≤ i ∧ i ≤ 30)) : (m_back σ x).1 c i k = x.1 c i k := by
  unfold m_back
  rw [m_wbr_n (by omega), m_wbz_n (by omega), m_works_n (by omega)]
set_option maxRecDepth 100000 in
set_option maxHeartbeats 400000 in
theorem n_wbz {G : bp_X} {α : bt_A} {σ : bt_X} (J : m_J α) {Φ : bp_O → bq_O → Prop} {s : Int32} : ∀ (n p : Nat) (x : bt_X), n + p = 32 → bq_W G mX6_worksBack 5 27 [(0, .ref (bt_ad α 6 0)), (1, .int s)] [] (bt α σ (m_wbz n p x)) Φ → bq_W G mX6_worksBack 5 7 [(0, .ref (bt_ad α 6 0)), (1, .int s), (2, .int (nI p))] [] (bt α σ x) Φ := by
  intro n
  induction n with
  | zero =>
    intro p x hp kk
    unfold m_wbz at kk
    refine bq_iload_n (i := 2) dX6_worksBack_7 rfl ?_
    refine bq_bipush (v := (nI 32)) dX6_worksBack_8 (by decide) ?_
    refine bq_icmp_ge (tgt := 27) dX6_worksBack_10 (by decide) (fun c_10 => ?_) (fun z9_ => absurd (show nI 32 ≤ nI p from nI_le (by omega) (by omega)) z9_)
    refine bq_lvs (lv' := [(0, .ref (bt_ad α 6 0)), (1, .int s)]) ⟨rfl, rfl, trivial⟩ ?_
    exact kk
  | succ n ih =>
    intro p x hp kk
    unfold m_wbz at kk
    refine bq_iload_n (i := 2) dX6_worksBack_7 rfl ?_
    refine bq_bipush (v := (nI 32)) dX6_worksBack_8 (by decide) ?_
    refine bq_icmp_ge (tgt := 27) dX6_worksBack_10 (by decide) (fun z9_ => absurd z9_ (show ¬ nI 32 ≤ nI p from nI_ge (by omega) (by omega))) (fun c_10 => ?_)
    refine bq_aload_n (i := 0) dX6_worksBack_13 rfl ?_
    refine bt_get3 (c' := 8) (n := 30) dX6_worksBack_14 fl_X6_62 (by first | assumption | exact J.v3 | exact J.v4 | exact J.v5 | exact J.v6 | exact J.l0 | exact J.l1 | exact J.l2 | exact J.l3 | exact J.row (by assumption) | exact J.ops (by assumption) | exact J.job (by assumption)) ⟨rfl, rfl, rfl⟩ (by decide) ?_
    refine bq_iload_n (i := 2) dX6_worksBack_17 rfl ?_
    refine bq_ldc dX6_worksBack_18 kc_X6_116 ?_
    refine bt_iast0 (n := 30) (j := p) dX6_worksBack_20 J.a30 rfl (by omega) (by decide) rfl ?_
    refine bq_iinc dX6_worksBack_21 rfl (by decide) (by first | exact bp_inc _ | rfl) ?_
    refine bq_goto (tgt := 7) dX6_worksBack_24 (by decide) ?_
    refine bq_lvs (lv' := [(0, .ref (bt_ad α 6 0)), (1, .int s), (2, .int (nI (p + 1)))]) ⟨rfl, rfl, rfl, trivial⟩ ?_
    exact ih (p + 1) _ (by omega) kk
set_option maxRecDepth 100000 in
set_option maxHeartbeats 400000 in
theorem n_wb1 {G : bp_X} {α : bt_A} {σ : bt_X} (J : m_J α) (hK : m_K σ) {Φ : bp_O → bq_O → Prop} {s r : Int32} : ∀ (n p : Nat) (x : bt_X), n + p = 32 → m_L x → bq_W G mX6_worksBack 5 75 [(0, .ref (bt_ad α 6 0)), (1, .int s), (2, .int r)] [] (bt α σ (m_wb1 σ s n p x)) Φ → bq_W G mX6_worksBack 5 37 [(0, .ref (bt_ad α 6 0)), (1, .int s), (2, .int r), (3, .int (nI p))] [] (bt α σ x) Φ := by
  intro n
  induction n with
  | zero =>
    intro p x hp hL kk
    unfold m_wb1 at kk
    refine bq_iload_n (i := 3) dX6_worksBack_37 rfl ?_
    refine bq_bipush (v := (nI 32)) dX6_worksBack_38 (by decide) ?_
    refine bq_icmp_ge (tgt := 75) dX6_worksBack_40 (by decide) (fun c_40 => ?_) (fun z9_ => absurd (show nI 32 ≤ nI p from nI_le (by omega) (by omega)) z9_)
    refine bq_lvs (lv' := [(0, .ref (bt_ad α 6 0)), (1, .int s), (2, .int r)]) ⟨rfl, rfl, rfl, trivial⟩ ?_
    exact kk
  | succ n ih =>
    intro p x hp hL kk
    unfold m_wb1 at kk
    refine bq_iload_n (i := 3) dX6_worksBack_37 rfl ?_
    refine bq_bipush (v := (nI 32)) dX6_worksBack_38 (by decide) ?_
    refine bq_icmp_ge (tgt := 75) dX6_worksBack_40 (by decide) (fun z9_ => absurd z9_ (show ¬ nI 32 ≤ nI p from nI_ge (by omega) (by omega))) (fun c_40 => ?_)
    refine bq_aload_n (i := 0) dX6_worksBack_43 rfl ?_
    refine bt_get3 (c' := 8) (n := 30) dX6_worksBack_44 fl_X6_62 (by first | assumption | exact J.v3 | exact J.v4 | exact J.v5 | exact J.v6 | exact J.l0 | exact J.l1 | exact J.l2 | exact J.l3 | exact J.row (by assumption) | exact J.ops (by assumption) | exact J.job (by assumption)) ⟨rfl, rfl, rfl⟩ (by decide) ?_
    refine bq_iload_n (i := 3) dX6_worksBack_47 rfl ?_
    refine bq_aload_n (i := 0) dX6_worksBack_48 rfl ?_
    refine bt_get3 (c' := 8) (n := 26) dX6_worksBack_49 fl_X6_50 (by first | assumption | exact J.v3 | exact J.v4 | exact J.v5 | exact J.v6 | exact J.l0 | exact J.l1 | exact J.l2 | exact J.l3 | exact J.row (by assumption) | exact J.ops (by assumption) | exact J.job (by assumption)) ⟨rfl, rfl, rfl⟩ (by decide) ?_
    refine bq_iload_n (i := 3) dX6_worksBack_52 rfl ?_
    refine bt_zald0 (n := 26) (j := p) dX6_worksBack_53 J.a26 rfl (by omega) (by decide) rfl ?_
    refine bq_if_eq (tgt := 66) dX6_worksBack_54 (by decide) (fun c_54 => ?_) (fun c_54 => ?_)
    · rw [if_pos c_54] at kk
      refine bq_ldc dX6_worksBack_66 kc_X6_116 ?_
      refine bt_iast0 (n := 30) (j := p) dX6_worksBack_68 J.a30 rfl (by omega) (by decide) rfl ?_
      refine bq_iinc dX6_worksBack_69 rfl (by decide) (by first | exact bp_inc _ | rfl) ?_
      refine bq_goto (tgt := 37) dX6_worksBack_72 (by decide) ?_
      refine bq_lvs (lv' := [(0, .ref (bt_ad α 6 0)), (1, .int s), (2, .int r), (3, .int (nI (p + 1)))]) ⟨rfl, rfl, rfl, rfl, trivial⟩ ?_
      exact ih (p + 1) _ (by omega) (hL.ext (fun i k hi => b_gs_ne (by omega))) kk
    · rw [if_neg c_54] at kk
      refine bq_aload_n (i := 0) dX6_worksBack_57 rfl ?_
      refine bq_iload_n (i := 3) dX6_worksBack_58 rfl ?_
      refine bq_iload_n (i := 1) dX6_worksBack_59 rfl ?_
      refine bt_callVr (c := 6) (i := 0) dX6_worksBack_60 rfl ml_X6_117 (by first | assumption | exact J.v3 | exact J.v4 | exact J.v5 | exact J.v6 | exact J.l0 | exact J.l1 | exact J.l2 | exact J.l3 | exact J.row (by assumption) | exact J.ops (by assumption) | exact J.job (by assumption)) (by decide) (n_lasts J hK hL (by omega)) (by decide) (by decide) (Nat.le_of_ble_eq_true rfl) rfl ?_
      refine bq_goto (tgt := 68) dX6_worksBack_63 (by decide) ?_
      refine bt_iast0 (n := 30) (j := p) dX6_worksBack_68 J.a30 rfl (by omega) (by decide) rfl ?_
      refine bq_iinc dX6_worksBack_69 rfl (by decide) (by first | exact bp_inc _ | rfl) ?_
      refine bq_goto (tgt := 37) dX6_worksBack_72 (by decide) ?_
      refine bq_lvs (lv' := [(0, .ref (bt_ad α 6 0)), (1, .int s), (2, .int r), (3, .int (nI (p + 1)))]) ⟨rfl, rfl, rfl, rfl, trivial⟩ ?_
      exact ih (p + 1) _ (by omega) (hL.ext (fun i k hi => b_gs_ne (by omega))) kk
set_option maxRecDepth 100000 in
set_option maxHeartbeats 400000 in
theorem n_wbr {G : bp_X} {α : bt_A} {σ : bt_X} (J : m_J α) (hK : m_K σ) {Φ : bp_O → bq_O → Prop} {s : Int32} : ∀ (n r : Nat) (x : bt_X), n + r = 33 → m_L x → bq_W G mX6_worksBack 5 81 [] [] (bt α σ (m_wbr σ s n x)) Φ → bq_W G mX6_worksBack 5 29 [(0, .ref (bt_ad α 6 0)), (1, .int s), (2, .int (nI r))] [] (bt α σ x) Φ := by
  intro n
  induction n with
  | zero =>
    intro r x hr hL kk
    unfold m_wbr at kk
    refine bq_iload_n (i := 2) dX6_worksBack_29 rfl ?_
    refine bq_bipush (v := (nI 32)) dX6_worksBack_30 (by decide) ?_
    refine bq_icmp_gt (tgt := 81) dX6_worksBack_32 (by decide) (fun c_32 => ?_) (fun z9_ => absurd (show nI 32 < nI r from nI_lt (by omega) (by omega)) z9_)
    refine bq_lvs (lv' := []) trivial ?_
    exact kk
  | succ n ih =>
    intro r x hr hL kk
    unfold m_wbr at kk
    refine bq_iload_n (i := 2) dX6_worksBack_29 rfl ?_
    refine bq_bipush (v := (nI 32)) dX6_worksBack_30 (by decide) ?_
    refine bq_icmp_gt (tgt := 81) dX6_worksBack_32 (by decide) (fun z9_ => absurd z9_ (show ¬ nI 32 < nI r from nI_nlt (by omega) (by omega))) (fun c_32 => ?_)
    refine bq_iconst (v := (nI 0)) dX6_worksBack_35 (by decide) ?_
    refine bq_istore_n (i := 3) dX6_worksBack_36 (by decide) ?_
    refine bq_lvs (lv' := [(0, .ref (bt_ad α 6 0)), (1, .int s), (2, .int (nI r)), (3, .int (nI 0))]) ⟨rfl, rfl, rfl, rfl, trivial⟩ ?_
    refine n_wb1 J hK m_32 0 x m_32_e hL ?_
    refine bq_iinc dX6_worksBack_75 rfl (by decide) (bp_inc _) ?_
    refine bq_goto (tgt := 29) dX6_worksBack_78 (by decide) ?_
    refine bq_lvs (lv' := [(0, .ref (bt_ad α 6 0)), (1, .int s), (2, .int (nI (r + 1)))]) ⟨rfl, rfl, rfl, trivial⟩ ?_
    exact ih (r + 1) _ (by omega) (hL.ext (fun i k hi => m_wb1_n (by omega) _ _ _)) kk
set_option maxRecDepth 100000 in
set_option maxHeartbeats 400000 in
theorem n_back {G : bp_X} {α : bt_A} {σ x : bt_X}  (J : m_J α) (hN : m_Nn σ) (hK : m_K σ) (hR : m_Rw x) : bq_S G mX6_worksBack 5 [.ref (bt_ad α 6 0)] (bt α σ x) (bq_ret none (bt α σ (m_back σ x))) := by
  refine bq_ofW (by decide +kernel) rfl (Nat.le_of_ble_eq_true rfl) ?_
  refine bq_aload_n (i := 0) dX6_worksBack_0 rfl ?_
  refine bt_callVr (c := 6) (i := 0) dX6_worksBack_1 rfl ml_X6_113 (by first | assumption | exact J.v3 | exact J.v4 | exact J.v5 | exact J.v6 | exact J.l0 | exact J.l1 | exact J.l2 | exact J.l3 | exact J.row (by assumption) | exact J.ops (by assumption) | exact J.job (by assumption)) (by decide) (n_spanOf J hN hK hR) (by decide) (by decide) (Nat.le_of_ble_eq_true rfl) rfl ?_
  refine bq_istore_n (i := 1) dX6_worksBack_4 (by decide) ?_
  refine bq_iconst (v := (nI 0)) dX6_worksBack_5 (by decide) ?_
  refine bq_istore_n (i := 2) dX6_worksBack_6 (by decide) ?_
  refine bq_lvs (lv' := [(0, .ref (bt_ad α 6 0)), (1, .int (m_spanOf σ x)), (2, .int (nI 0))]) ⟨rfl, rfl, rfl, trivial⟩ ?_
  refine n_wbz J m_32 0 _ m_32_e ?_
  refine bq_iconst (v := nI 0) dX6_worksBack_27 (by decide) ?_
  refine bq_istore_n (i := 2) dX6_worksBack_28 (by decide) ?_
  refine bq_lvs (lv' := [(0, .ref (bt_ad α 6 0)), (1, .int (m_spanOf σ x)), (2, .int (nI 0))]) ⟨rfl, rfl, rfl, trivial⟩ ?_
  refine n_wbr J hK m_33 0 _ m_33_e ((m_works_L hN hR).ext (fun i k hi => m_wbz_n (by omega) _ _ _)) ?_
  exact bq_vret dX6_worksBack_81 rfl bq_ret_i
