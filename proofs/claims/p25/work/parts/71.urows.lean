/-! ===== the law: areRows ===== -/
section URW
variable {α : bt_A} {σ x : bt_X} {G : bp_X}
/-- seen is what stands in the list, once -/
def u_sn (y : bt_X) (Q : List Nat) : Prop := ∀ i, i < 32 → y.1 8 39 i = if i ∈ Q then nI 1 else nI 0
theorem u_R.sn {y : bt_X} (r : u_R x y) {k : Nat} {v : Int32} : u_R x (bt_gs y 8 39 k v) := ⟨r.1, r.2.1, fun c i k' h1 h2 => (b_gs_ne (by omega)).trans (r.2.2 c i k' h1 h2)⟩
theorem u_take {L : List Nat} {k i a : Nat} (hi : L[k]? = some i) : a ∈ L.take (k + 1) ↔ a ∈ L.take k ∨ a = i := by
  rw [List.take_succ, List.mem_append, hi]
  simp
theorem u_new (h : v_Inv σ x) {m k i : Nat} (hm : m < b_nm σ) (hi : (x.2.2 (4 + m))[k]? = some i) : i ∉ u_RL x m ++ (x.2.2 (4 + m)).take k := by
  intro q
  rcases List.mem_append.mp q with q | q
  · obtain ⟨m', q1, q2⟩ := (u_RL_mem m i).mp q
    have e1 := ((h.1.2.1.1 m' (by omega)).2 i q2).2
    have e2 := ((h.1.2.1.1 m hm).2 i (List.mem_of_getElem? hi)).2
    omega
  · obtain ⟨p, hp⟩ := v_mem q
    rw [List.getElem?_take] at hp
    split at hp
    · rename_i c
      have := v_nd (h.1.2.1.1 m hm).1 hp hi
      omega
    · cases hp
set_option maxRecDepth 100000 in
set_option maxHeartbeats 1000000 in
theorem u_rows_0 (hV : z_V α σ) {Φ : bp_O → bq_O → Prop} (kk : ∀ y', u_R x y' → u_sn y' [] → bq_W G mL_areRows 8 27 [(0, .ref (bt_ad α 5 0)), (1, .ref (bt_ad α 8 35)), (2, .ref (bt_ad α 8 36)), (3, .ref (bt_ad α 8 39)), (4, .int (nI (b_nm σ))), (5, .int (nI (b_nj σ))), (6, .int (nI 0)), (7, .int (nI 1))] [] (bt α σ y') Φ) : ∀ (n k : Nat) (y : bt_X), k + n = 32 → u_R x y → (∀ i, i < k → y.1 8 39 i = nI 0) →
    bq_W G mL_areRows 8 9 [(0, .ref (bt_ad α 5 0)), (1, .ref (bt_ad α 8 35)), (2, .ref (bt_ad α 8 36)), (3, .ref (bt_ad α 8 39)), (4, .int (nI (b_nm σ))), (5, .int (nI (b_nj σ))), (6, .int (nI 0)), (7, .int (nI 1)), (8, .int (nI k))] [] (bt α σ y) Φ := by
  intro n
  induction n with
  | zero =>
    intro k y hk r h0
    refine bq_iload (i := 8) dL_areRows_9 rfl ?_
    refine bq_bipush (v := (nI 32)) dL_areRows_11 (by decide) ?_
    refine bq_icmp_ge (tgt := 27) dL_areRows_13 (by decide) (fun c_13 => ?_) (fun z9_ => absurd (nI_le (by omega) (by omega)) z9_)
    refine bq_lvs (lv' := [(0, .ref (bt_ad α 5 0)), (1, .ref (bt_ad α 8 35)), (2, .ref (bt_ad α 8 36)), (3, .ref (bt_ad α 8 39)), (4, .int (nI (b_nm σ))), (5, .int (nI (b_nj σ))), (6, .int (nI 0)), (7, .int (nI 1))]) ⟨rfl, rfl, rfl, rfl, rfl, rfl, rfl, rfl, trivial⟩ ?_
    exact kk y r (fun i hi => (h0 i (by omega)).trans (if_neg List.not_mem_nil).symm)
  | succ n ih =>
    intro k y hk r h0
    refine bq_iload (i := 8) dL_areRows_9 rfl ?_
    refine bq_bipush (v := (nI 32)) dL_areRows_11 (by decide) ?_
    refine bq_icmp_ge (tgt := 27) dL_areRows_13 (by decide) (fun z9_ => absurd z9_ (nI_ge (by omega) (by omega))) (fun c_13 => ?_)
    refine bq_aload_n (i := 3) dL_areRows_16 rfl ?_
    refine bq_iload (i := 8) dL_areRows_17 rfl ?_
    refine bq_iconst (v := (nI 0)) dL_areRows_19 (by decide) ?_
    refine bt_iast0 (n := 39) (j := k) dL_areRows_20 hV.a39 rfl (by omega) (by decide) rfl ?_
    refine bq_iinc dL_areRows_21 rfl (by decide) (by first | exact bp_inc _ | rfl) ?_
    refine bq_goto (tgt := 9) dL_areRows_24 (by decide) ?_
    refine bq_lvs (lv' := [(0, .ref (bt_ad α 5 0)), (1, .ref (bt_ad α 8 35)), (2, .ref (bt_ad α 8 36)), (3, .ref (bt_ad α 8 39)), (4, .int (nI (b_nm σ))), (5, .int (nI (b_nj σ))), (6, .int (nI 0)), (7, .int (nI 1)), (8, .int (nI (k + 1)))]) ⟨rfl, rfl, rfl, rfl, rfl, rfl, rfl, rfl, rfl, trivial⟩ ?_
    exact ih (k + 1) _ (by omega) r.sn (fun i hi => by
      by_cases e : i = k
      · subst e; exact b_gs_at
      · rw [b_gs_ne (by omega)]; exact h0 i (by omega))
set_option maxRecDepth 100000 in
set_option maxHeartbeats 1000000 in
theorem u_rows_in (hV : z_V α σ) (h : v_Inv σ x) (hroom : bt_us α + 110 ≤ bp_max) {Φ : bp_O → bq_O → Prop} {m : Nat} (hm : m < b_nm σ)
    (kk : ∀ y', u_R x y' → u_sn y' (u_RL x m ++ x.2.2 (4 + m)) → bq_W G mL_areRows 8 89 [(0, .ref (bt_ad α 5 0)), (1, .ref (bt_ad α 8 35)), (2, .ref (bt_ad α 8 36)), (3, .ref (bt_ad α 8 39)), (4, .int (nI (b_nm σ))), (5, .int (nI (b_nj σ))), (6, .int (nI ((u_RL x m).length + (x.2.2 (4 + m)).length))), (7, .int (nI 1)), (8, .int (nI m))] [] (bt α σ y') Φ) : ∀ (n k : Nat) (y : bt_X), k + n = (x.2.2 (4 + m)).length → u_R x y → u_sn y (u_RL x m ++ (x.2.2 (4 + m)).take k) →
    bq_W G mL_areRows 8 40 [(0, .ref (bt_ad α 5 0)), (1, .ref (bt_ad α 8 35)), (2, .ref (bt_ad α 8 36)), (3, .ref (bt_ad α 8 39)), (4, .int (nI (b_nm σ))), (5, .int (nI (b_nj σ))), (6, .int (nI ((u_RL x m).length + k))), (7, .int (nI 1)), (8, .int (nI m)), (9, .int (nI k))] [] (bt α σ y) Φ := by
  have hl := u_len h hm
  have h8 := u_nj8 h
  intro n
  induction n with
  | zero =>
    intro k y hk r hs
    have hy := h.u r
    have ek : k = (x.2.2 (4 + m)).length := by omega
    rw [ek, List.take_of_length_le (Nat.le_refl _)] at hs
    rw [ek]
    refine bq_iload (i := 9) dL_areRows_40 rfl ?_
    refine bq_aload_n (i := 0) dL_areRows_42 rfl ?_
    refine bq_iload (i := 8) dL_areRows_43 rfl ?_
    refine bt_callVr (c := 5) (i := 0) dL_areRows_45 rfl ml_L_40 (by first | exact hV.v5 | assumption | exact J.v3 | exact J.v4 | exact J.v5 | exact J.v6 | exact J.l0 | exact J.l1 | exact J.l2 | exact J.l3 | exact J.row (by assumption) | exact J.ops (by assumption) | exact J.job (by assumption)) (by decide) (t_placed hV hy hm hroom) (by decide) (by decide) (Nat.le_of_ble_eq_true rfl) rfl ?_
    rw [r.row]
    refine bq_icmp_ge (tgt := 89) dL_areRows_48 (by decide) (fun c_48 => ?_) (fun z9_ => absurd (Int32.le_refl _) z9_)
    refine bq_lvs (lv' := [(0, .ref (bt_ad α 5 0)), (1, .ref (bt_ad α 8 35)), (2, .ref (bt_ad α 8 36)), (3, .ref (bt_ad α 8 39)), (4, .int (nI (b_nm σ))), (5, .int (nI (b_nj σ))), (6, .int (nI ((u_RL x m).length + (x.2.2 (4 + m)).length))), (7, .int (nI 1)), (8, .int (nI m))]) ⟨rfl, rfl, rfl, rfl, rfl, rfl, rfl, rfl, rfl, trivial⟩ ?_
    exact kk y r hs
  | succ n ih =>
    intro k y hk r hs
    have hy := h.u r
    have hkl : k < (x.2.2 (4 + m)).length := by omega
    obtain ⟨i, hi⟩ : ∃ i, (x.2.2 (4 + m))[k]? = some i := ⟨_, List.getElem?_eq_getElem hkl⟩
    have hop := ((h.1.2.1.1 m hm).2 i (List.mem_of_getElem? hi)).1
    have hi32 : i < 32 := by have := hop.1; omega
    have hnew := u_new h hm hi
    have eS : y.1 8 39 i = nI 0 := (hs i hi32).trans (if_neg hnew)
    have e4 : 4 * (i / 4) + i % 4 = i := by omega
    obtain ⟨c, hc⟩ : ∃ c, c = 10 * (i / 4) + i % 4 := ⟨_, rfl⟩
    have e1 : nI c / nI 10 = nI (i / 4) := by rw [pk_div (by omega) (by omega) (by omega)]; exact congrArg nI (by omega)
    have e2 : nI c - nI c / nI 10 * nI 10 = nI (i % 4) := by rw [pk_rem (by omega) (by omega) (by omega)]; exact congrArg nI (by omega)
    refine bq_iload (i := 9) dL_areRows_40 rfl ?_
    refine bq_aload_n (i := 0) dL_areRows_42 rfl ?_
    refine bq_iload (i := 8) dL_areRows_43 rfl ?_
    refine bt_callVr (c := 5) (i := 0) dL_areRows_45 rfl ml_L_40 (by first | exact hV.v5 | assumption | exact J.v3 | exact J.v4 | exact J.v5 | exact J.v6 | exact J.l0 | exact J.l1 | exact J.l2 | exact J.l3 | exact J.row (by assumption) | exact J.ops (by assumption) | exact J.job (by assumption)) (by decide) (t_placed hV hy hm hroom) (by decide) (by decide) (Nat.le_of_ble_eq_true rfl) rfl ?_
    rw [r.row]
    refine bq_icmp_ge (tgt := 89) dL_areRows_48 (by decide) (fun z9_ => absurd z9_ (nI_ge hkl (by omega))) (fun c_48 => ?_)
    refine bq_aload_n (i := 0) dL_areRows_51 rfl ?_
    refine bq_iload (i := 8) dL_areRows_52 rfl ?_
    refine bq_iload (i := 9) dL_areRows_54 rfl ?_
    refine bt_callVr (c := 5) (i := 0) dL_areRows_56 rfl ml_L_43 (by first | exact hV.v5 | assumption | exact J.v3 | exact J.v4 | exact J.v5 | exact J.v6 | exact J.l0 | exact J.l1 | exact J.l2 | exact J.l3 | exact J.row (by assumption) | exact J.ops (by assumption) | exact J.job (by assumption)) (by decide) (t_plAt hV hy hm (by rw [r.row]; exact hi) hroom) (by decide) (by decide) (Nat.le_of_ble_eq_true rfl) rfl ?_
    rw [← hc]
    refine bq_istore (i := 10) dL_areRows_59 (by decide) ?_
    refine bq_aload_n (i := 3) dL_areRows_61 rfl ?_
    refine bq_iconst (v := (nI 4)) dL_areRows_62 (by decide) ?_
    refine bq_iload (i := 10) dL_areRows_63 rfl ?_
    refine bq_bipush (v := (nI 10)) dL_areRows_65 (by decide) ?_
    refine bq_idiv dL_areRows_67 (by decide) ?_
    rw [e1]
    refine bq_imul dL_areRows_68 ?_
    rw [pk_mul]
    refine bq_iload (i := 10) dL_areRows_69 rfl ?_
    refine bq_bipush (v := (nI 10)) dL_areRows_71 (by decide) ?_
    refine bq_irem dL_areRows_73 (by decide) ?_
    rw [e2]
    refine bq_iadd dL_areRows_74 ?_
    rw [nI_add, e4]
    refine bq_dup2 dL_areRows_75 rfl rfl ?_
    refine bt_iald0 (n := 39) (j := i) dL_areRows_76 hV.a39 rfl (by omega) (by decide) rfl ?_
    rw [eS]
    refine bq_iconst (v := (nI 1)) dL_areRows_77 (by decide) ?_
    refine bq_iadd dL_areRows_78 ?_
    rw [nI_add]
    refine bt_iast0 (n := 39) (j := i) dL_areRows_79 hV.a39 rfl (by omega) (by decide) rfl ?_
    refine bq_iinc dL_areRows_80 rfl (by decide) (by first | exact bp_inc _ | rfl) ?_
    refine bq_iinc dL_areRows_83 rfl (by decide) (by first | exact bp_inc _ | rfl) ?_
    refine bq_goto (tgt := 40) dL_areRows_86 (by decide) ?_
    refine bq_lvs (lv' := [(0, .ref (bt_ad α 5 0)), (1, .ref (bt_ad α 8 35)), (2, .ref (bt_ad α 8 36)), (3, .ref (bt_ad α 8 39)), (4, .int (nI (b_nm σ))), (5, .int (nI (b_nj σ))), (6, .int (nI ((u_RL x m).length + (k + 1)))), (7, .int (nI 1)), (8, .int (nI m)), (9, .int (nI (k + 1)))]) ⟨rfl, rfl, rfl, rfl, rfl, rfl, rfl, rfl, rfl, rfl, trivial⟩ ?_
    exact ih (k + 1) _ (by omega) r.sn (fun a ha => by
      by_cases e : a = i
      · subst e
        rw [b_gs_at, if_pos (List.mem_append.mpr (Or.inr ((u_take hi).mpr (Or.inr rfl))))]
      · rw [b_gs_ne (by omega), hs a ha]
        have e9 : a ∈ u_RL x m ++ (x.2.2 (4 + m)).take (k + 1) ↔ a ∈ u_RL x m ++ (x.2.2 (4 + m)).take k := by
          rw [List.mem_append, List.mem_append, u_take hi]
          exact ⟨fun q => q.imp id (fun q => q.resolve_right e), fun q => q.imp id Or.inl⟩
        simp only [e9])
set_option maxRecDepth 100000 in
set_option maxHeartbeats 1000000 in
theorem u_rows_m (hV : z_V α σ) (h : v_Inv σ x) (hroom : bt_us α + 110 ≤ bp_max) {Φ : bp_O → bq_O → Prop}
    (kk : ∀ y', u_R x y' → u_sn y' (u_RL x (b_nm σ)) → bq_W G mL_areRows 8 152 [(0, .ref (bt_ad α 5 0)), (1, .ref (bt_ad α 8 35)), (2, .ref (bt_ad α 8 36)), (3, .ref (bt_ad α 8 39)), (4, .int (nI (b_nm σ))), (5, .int (nI (b_nj σ))), (6, .int (nI (u_RL x (b_nm σ)).length)), (7, .int (nI 1))] [] (bt α σ y') Φ) : ∀ (n m : Nat) (y : bt_X), m + n = b_nm σ → u_R x y → u_sn y (u_RL x m) →
    bq_W G mL_areRows 8 30 [(0, .ref (bt_ad α 5 0)), (1, .ref (bt_ad α 8 35)), (2, .ref (bt_ad α 8 36)), (3, .ref (bt_ad α 8 39)), (4, .int (nI (b_nm σ))), (5, .int (nI (b_nj σ))), (6, .int (nI (u_RL x m).length)), (7, .int (nI 1)), (8, .int (nI m))] [] (bt α σ y) Φ := by
  have h4 := u_nm4 h
  intro n
  induction n with
  | zero =>
    intro m y hm r hs
    have em : m = b_nm σ := by omega
    subst em
    refine bq_iload (i := 8) dL_areRows_30 rfl ?_
    refine bq_iload (i := 4) dL_areRows_32 rfl ?_
    refine bq_icmp_ge (tgt := 152) dL_areRows_34 (by decide) (fun c_34 => ?_) (fun z9_ => absurd (Int32.le_refl _) z9_)
    refine bq_lvs (lv' := [(0, .ref (bt_ad α 5 0)), (1, .ref (bt_ad α 8 35)), (2, .ref (bt_ad α 8 36)), (3, .ref (bt_ad α 8 39)), (4, .int (nI (b_nm σ))), (5, .int (nI (b_nj σ))), (6, .int (nI (u_RL x (b_nm σ)).length)), (7, .int (nI 1))]) ⟨rfl, rfl, rfl, rfl, rfl, rfl, rfl, rfl, trivial⟩ ?_
    exact kk y r hs
  | succ n ih =>
    intro m y hmn r hs
    have hm : m < b_nm σ := by omega
    have hl := u_len h hm
    refine bq_iload (i := 8) dL_areRows_30 rfl ?_
    refine bq_iload (i := 4) dL_areRows_32 rfl ?_
    refine bq_icmp_ge (tgt := 152) dL_areRows_34 (by decide) (fun z9_ => absurd z9_ (nI_ge hm (by omega))) (fun c_34 => ?_)
    refine bq_iconst (v := (nI 0)) dL_areRows_37 (by decide) ?_
    refine bq_istore (i := 9) dL_areRows_38 (by decide) ?_
    refine bq_lvs (lv' := [(0, .ref (bt_ad α 5 0)), (1, .ref (bt_ad α 8 35)), (2, .ref (bt_ad α 8 36)), (3, .ref (bt_ad α 8 39)), (4, .int (nI (b_nm σ))), (5, .int (nI (b_nj σ))), (6, .int (nI ((u_RL x m).length + 0))), (7, .int (nI 1)), (8, .int (nI m)), (9, .int (nI 0))]) ⟨rfl, rfl, rfl, rfl, rfl, rfl, rfl, rfl, rfl, rfl, trivial⟩ ?_
    refine u_rows_in hV h hroom hm (fun y' r' hs' => ?_) _ 0 y (Nat.zero_add _) r (by rw [List.take_zero, List.append_nil]; exact hs)
    have hy' := h.u r'
    obtain ⟨T1, b1, z1, hld⟩ := t_loads (G := G) hV hy' hm hroom
    obtain ⟨T2, b2, z2, hsu⟩ := t_setups (G := G) hV hy' hm hroom
    have K := ih (m + 1) y' (by omega) r' hs'
    rw [show (u_RL x (m + 1)).length = (u_RL x m).length + (x.2.2 (4 + m)).length from List.length_append] at K
    rcases Nat.eq_zero_or_pos (x.2.2 (4 + m)).length with hlen | hlen
    · refine bq_iload (i := 7) dL_areRows_89 rfl ?_
      refine bq_if_eq (tgt := 143) dL_areRows_91 (by decide) (fun z9_ => absurd z9_ (show ¬ nI 1 = 0 by decide)) (fun c_91 => ?_)
      refine bq_aload_n (i := 0) dL_areRows_94 rfl ?_
      refine bq_iload (i := 8) dL_areRows_95 rfl ?_
      refine bt_callVr (c := 5) (i := 0) dL_areRows_97 rfl ml_L_46 (by first | exact hV.v5 | assumption | exact J.v3 | exact J.v4 | exact J.v5 | exact J.v6 | exact J.l0 | exact J.l1 | exact J.l2 | exact J.l3 | exact J.row (by assumption) | exact J.ops (by assumption) | exact J.job (by assumption)) (by decide) (hld) (by decide) (by decide) (Nat.le_of_ble_eq_true rfl) rfl ?_
      refine bq_if_lt (tgt := 143) dL_areRows_100 (by decide) (fun z9_ => absurd z9_ (nI_pos (by omega))) (fun c_100 => ?_)
      refine bq_aload_n (i := 0) dL_areRows_103 rfl ?_
      refine bq_iload (i := 8) dL_areRows_104 rfl ?_
      refine bt_callVr (c := 5) (i := 0) dL_areRows_106 rfl ml_L_49 (by first | exact hV.v5 | assumption | exact J.v3 | exact J.v4 | exact J.v5 | exact J.v6 | exact J.l0 | exact J.l1 | exact J.l2 | exact J.l3 | exact J.row (by assumption) | exact J.ops (by assumption) | exact J.job (by assumption)) (by decide) (hsu) (by decide) (by decide) (Nat.le_of_ble_eq_true rfl) rfl ?_
      refine bq_if_lt (tgt := 143) dL_areRows_109 (by decide) (fun z9_ => absurd z9_ (nI_pos (by omega))) (fun c_109 => ?_)
      refine bq_aload_n (i := 0) dL_areRows_112 rfl ?_
      refine bq_iload (i := 8) dL_areRows_113 rfl ?_
      refine bt_callVr (c := 5) (i := 0) dL_areRows_115 rfl ml_L_40 (by first | exact hV.v5 | assumption | exact J.v3 | exact J.v4 | exact J.v5 | exact J.v6 | exact J.l0 | exact J.l1 | exact J.l2 | exact J.l3 | exact J.row (by assumption) | exact J.ops (by assumption) | exact J.job (by assumption)) (by decide) (t_placed hV hy' hm hroom) (by decide) (by decide) (Nat.le_of_ble_eq_true rfl) rfl ?_
      rw [r'.row]
      refine bq_if_gt (tgt := 139) dL_areRows_118 (by decide) (fun z9_ => absurd z9_ (show ¬ 0 < nI (x.2.2 (4 + m)).length by rw [hlen]; decide)) (fun c_118 => ?_)
      refine bq_aload_n (i := 0) dL_areRows_121 rfl ?_
      refine bq_iload (i := 8) dL_areRows_122 rfl ?_
      refine bt_callVr (c := 5) (i := 0) dL_areRows_124 rfl ml_L_46 (by first | exact hV.v5 | assumption | exact J.v3 | exact J.v4 | exact J.v5 | exact J.v6 | exact J.l0 | exact J.l1 | exact J.l2 | exact J.l3 | exact J.row (by assumption) | exact J.ops (by assumption) | exact J.job (by assumption)) (by decide) (hld) (by decide) (by decide) (Nat.le_of_ble_eq_true rfl) rfl ?_
      refine bq_if_ne (tgt := 143) dL_areRows_127 (by decide) (fun z9_ => absurd (show nI T1 = 0 by rw [z1 (by rw [r'.row]; exact hlen)]; rfl) z9_) (fun c_127 => ?_)
      refine bq_aload_n (i := 0) dL_areRows_130 rfl ?_
      refine bq_iload (i := 8) dL_areRows_131 rfl ?_
      refine bt_callVr (c := 5) (i := 0) dL_areRows_133 rfl ml_L_49 (by first | exact hV.v5 | assumption | exact J.v3 | exact J.v4 | exact J.v5 | exact J.v6 | exact J.l0 | exact J.l1 | exact J.l2 | exact J.l3 | exact J.row (by assumption) | exact J.ops (by assumption) | exact J.job (by assumption)) (by decide) (hsu) (by decide) (by decide) (Nat.le_of_ble_eq_true rfl) rfl ?_
      refine bq_if_ne (tgt := 143) dL_areRows_136 (by decide) (fun z9_ => absurd (show nI T2 = 0 by rw [z2 (by rw [r'.row]; exact hlen)]; rfl) z9_) (fun c_136 => ?_)
      refine bq_iconst (v := (nI 1)) dL_areRows_139 (by decide) ?_
      refine bq_goto (tgt := 144) dL_areRows_140 (by decide) ?_
      refine bq_istore (i := 7) dL_areRows_144 (by decide) ?_
      refine bq_iinc dL_areRows_146 rfl (by decide) (by first | exact bp_inc _ | rfl) ?_
      refine bq_goto (tgt := 30) dL_areRows_149 (by decide) ?_
      refine bq_lvs (lv' := [(0, .ref (bt_ad α 5 0)), (1, .ref (bt_ad α 8 35)), (2, .ref (bt_ad α 8 36)), (3, .ref (bt_ad α 8 39)), (4, .int (nI (b_nm σ))), (5, .int (nI (b_nj σ))), (6, .int (nI ((u_RL x m).length + (x.2.2 (4 + m)).length))), (7, .int (nI 1)), (8, .int (nI (m + 1)))]) ⟨rfl, rfl, rfl, rfl, rfl, rfl, rfl, rfl, rfl, trivial⟩ ?_
      exact K
    · refine bq_iload (i := 7) dL_areRows_89 rfl ?_
      refine bq_if_eq (tgt := 143) dL_areRows_91 (by decide) (fun z9_ => absurd z9_ (show ¬ nI 1 = 0 by decide)) (fun c_91 => ?_)
      refine bq_aload_n (i := 0) dL_areRows_94 rfl ?_
      refine bq_iload (i := 8) dL_areRows_95 rfl ?_
      refine bt_callVr (c := 5) (i := 0) dL_areRows_97 rfl ml_L_46 (by first | exact hV.v5 | assumption | exact J.v3 | exact J.v4 | exact J.v5 | exact J.v6 | exact J.l0 | exact J.l1 | exact J.l2 | exact J.l3 | exact J.row (by assumption) | exact J.ops (by assumption) | exact J.job (by assumption)) (by decide) (hld) (by decide) (by decide) (Nat.le_of_ble_eq_true rfl) rfl ?_
      refine bq_if_lt (tgt := 143) dL_areRows_100 (by decide) (fun z9_ => absurd z9_ (nI_pos (by omega))) (fun c_100 => ?_)
      refine bq_aload_n (i := 0) dL_areRows_103 rfl ?_
      refine bq_iload (i := 8) dL_areRows_104 rfl ?_
      refine bt_callVr (c := 5) (i := 0) dL_areRows_106 rfl ml_L_49 (by first | exact hV.v5 | assumption | exact J.v3 | exact J.v4 | exact J.v5 | exact J.v6 | exact J.l0 | exact J.l1 | exact J.l2 | exact J.l3 | exact J.row (by assumption) | exact J.ops (by assumption) | exact J.job (by assumption)) (by decide) (hsu) (by decide) (by decide) (Nat.le_of_ble_eq_true rfl) rfl ?_
      refine bq_if_lt (tgt := 143) dL_areRows_109 (by decide) (fun z9_ => absurd z9_ (nI_pos (by omega))) (fun c_109 => ?_)
      refine bq_aload_n (i := 0) dL_areRows_112 rfl ?_
      refine bq_iload (i := 8) dL_areRows_113 rfl ?_
      refine bt_callVr (c := 5) (i := 0) dL_areRows_115 rfl ml_L_40 (by first | exact hV.v5 | assumption | exact J.v3 | exact J.v4 | exact J.v5 | exact J.v6 | exact J.l0 | exact J.l1 | exact J.l2 | exact J.l3 | exact J.row (by assumption) | exact J.ops (by assumption) | exact J.job (by assumption)) (by decide) (t_placed hV hy' hm hroom) (by decide) (by decide) (Nat.le_of_ble_eq_true rfl) rfl ?_
      rw [r'.row]
      refine bq_if_gt (tgt := 139) dL_areRows_118 (by decide) (fun c_118 => ?_) (fun z9_ => absurd (nI_lt (a := 0) hlen (by omega)) z9_)
      refine bq_iconst (v := (nI 1)) dL_areRows_139 (by decide) ?_
      refine bq_goto (tgt := 144) dL_areRows_140 (by decide) ?_
      refine bq_istore (i := 7) dL_areRows_144 (by decide) ?_
      refine bq_iinc dL_areRows_146 rfl (by decide) (by first | exact bp_inc _ | rfl) ?_
      refine bq_goto (tgt := 30) dL_areRows_149 (by decide) ?_
      refine bq_lvs (lv' := [(0, .ref (bt_ad α 5 0)), (1, .ref (bt_ad α 8 35)), (2, .ref (bt_ad α 8 36)), (3, .ref (bt_ad α 8 39)), (4, .int (nI (b_nm σ))), (5, .int (nI (b_nj σ))), (6, .int (nI ((u_RL x m).length + (x.2.2 (4 + m)).length))), (7, .int (nI 1)), (8, .int (nI (m + 1)))]) ⟨rfl, rfl, rfl, rfl, rfl, rfl, rfl, rfl, rfl, trivial⟩ ?_
      exact K
set_option maxRecDepth 100000 in
set_option maxHeartbeats 1000000 in
theorem u_rows_jn (hV : z_V α σ) (h : v_Inv σ x) (hL : u_L σ x) {Φ : bp_O → bq_O → Prop} {y : bt_X} (r : u_R x y) {j p : Nat} (hj : j < b_nj σ) (hp : σ.1 0 j 3 = nI p) (hse : ∀ k, k < b_np σ j → y.1 8 39 (4 * j + k) = nI p) {D : Nat}
    (kk : bq_W G mL_areRows 8 220 [(0, .ref (bt_ad α 5 0)), (1, .ref (bt_ad α 8 35)), (2, .ref (bt_ad α 8 36)), (3, .ref (bt_ad α 8 39)), (4, .int (nI (b_nm σ))), (5, .int (nI (b_nj σ))), (6, .int (nI (u_RL x (b_nm σ)).length)), (7, .int (nI 1)), (8, .int (nI (D + p * b_np σ j))), (9, .int (nI j))] [] (bt α σ y) Φ) : ∀ (n k : Nat), k + n = b_np σ j →
    bq_W G mL_areRows 8 168 [(0, .ref (bt_ad α 5 0)), (1, .ref (bt_ad α 8 35)), (2, .ref (bt_ad α 8 36)), (3, .ref (bt_ad α 8 39)), (4, .int (nI (b_nm σ))), (5, .int (nI (b_nj σ))), (6, .int (nI (u_RL x (b_nm σ)).length)), (7, .int (nI 1)), (8, .int (nI (D + p * k))), (9, .int (nI j)), (10, .int (nI k))] [] (bt α σ y) Φ := by
  have h8 := u_nj8 h
  have hp4 := u_np4 h hj
  have e35 : y.1 8 35 j = nI (b_np σ j) := by rw [r.arr (by omega), hL.1 j (by omega), if_pos hj]
  have e36 : y.1 8 36 j = nI p := by rw [r.arr (by omega), hL.2.1 j (by omega), if_pos hj, hp]
  intro n
  induction n with
  | zero =>
    intro k hk
    have ek : k = b_np σ j := by omega
    subst ek
    refine bq_iload (i := 10) dL_areRows_168 rfl ?_
    refine bq_aload_n (i := 1) dL_areRows_170 rfl ?_
    refine bq_iload (i := 9) dL_areRows_171 rfl ?_
    refine bt_iald0 (n := 35) (j := j) dL_areRows_173 hV.a35 rfl (by omega) (by decide) rfl ?_
    rw [e35]
    refine bq_icmp_ge (tgt := 220) dL_areRows_174 (by decide) (fun c_174 => ?_) (fun z9_ => absurd (Int32.le_refl _) z9_)
    refine bq_lvs (lv' := [(0, .ref (bt_ad α 5 0)), (1, .ref (bt_ad α 8 35)), (2, .ref (bt_ad α 8 36)), (3, .ref (bt_ad α 8 39)), (4, .int (nI (b_nm σ))), (5, .int (nI (b_nj σ))), (6, .int (nI (u_RL x (b_nm σ)).length)), (7, .int (nI 1)), (8, .int (nI (D + p * b_np σ j))), (9, .int (nI j))]) ⟨rfl, rfl, rfl, rfl, rfl, rfl, rfl, rfl, rfl, rfl, trivial⟩ ?_
    exact kk
  | succ n ih =>
    intro k hk
    have hkn : k < b_np σ j := by omega
    have e39 := hse k hkn
    refine bq_iload (i := 10) dL_areRows_168 rfl ?_
    refine bq_aload_n (i := 1) dL_areRows_170 rfl ?_
    refine bq_iload (i := 9) dL_areRows_171 rfl ?_
    refine bt_iald0 (n := 35) (j := j) dL_areRows_173 hV.a35 rfl (by omega) (by decide) rfl ?_
    rw [e35]
    refine bq_icmp_ge (tgt := 220) dL_areRows_174 (by decide) (fun z9_ => absurd z9_ (nI_ge hkn (by omega))) (fun c_174 => ?_)
    refine bq_iload (i := 8) dL_areRows_177 rfl ?_
    refine bq_aload_n (i := 2) dL_areRows_179 rfl ?_
    refine bq_iload (i := 9) dL_areRows_180 rfl ?_
    refine bt_iald0 (n := 36) (j := j) dL_areRows_182 hV.a36 rfl (by omega) (by decide) rfl ?_
    rw [e36]
    refine bq_iadd dL_areRows_183 ?_
    rw [nI_add]
    refine bq_istore (i := 8) dL_areRows_184 (by decide) ?_
    refine bq_iload (i := 7) dL_areRows_186 rfl ?_
    refine bq_if_eq (tgt := 211) dL_areRows_188 (by decide) (fun z9_ => absurd z9_ (show ¬ nI 1 = 0 by decide)) (fun c_188 => ?_)
    refine bq_aload_n (i := 3) dL_areRows_191 rfl ?_
    refine bq_iconst (v := (nI 4)) dL_areRows_192 (by decide) ?_
    refine bq_iload (i := 9) dL_areRows_193 rfl ?_
    refine bq_imul dL_areRows_195 ?_
    rw [pk_mul]
    refine bq_iload (i := 10) dL_areRows_196 rfl ?_
    refine bq_iadd dL_areRows_198 ?_
    rw [nI_add]
    refine bt_iald0 (n := 39) (j := (4 * j + k)) dL_areRows_199 hV.a39 rfl (by omega) (by decide) rfl ?_
    rw [e39]
    refine bq_aload_n (i := 2) dL_areRows_200 rfl ?_
    refine bq_iload (i := 9) dL_areRows_201 rfl ?_
    refine bt_iald0 (n := 36) (j := j) dL_areRows_203 hV.a36 rfl (by omega) (by decide) rfl ?_
    rw [e36]
    refine bq_icmp_ne (tgt := 211) dL_areRows_204 (by decide) (fun z9_ => absurd rfl z9_) (fun c_204 => ?_)
    refine bq_iconst (v := (nI 1)) dL_areRows_207 (by decide) ?_
    refine bq_goto (tgt := 212) dL_areRows_208 (by decide) ?_
    refine bq_istore (i := 7) dL_areRows_212 (by decide) ?_
    refine bq_iinc dL_areRows_214 rfl (by decide) (by first | exact bp_inc _ | rfl) ?_
    refine bq_goto (tgt := 168) dL_areRows_217 (by decide) ?_
    have K := ih (k + 1) (by omega)
    rw [Nat.mul_succ, ← Nat.add_assoc] at K
    refine bq_lvs (lv' := [(0, .ref (bt_ad α 5 0)), (1, .ref (bt_ad α 8 35)), (2, .ref (bt_ad α 8 36)), (3, .ref (bt_ad α 8 39)), (4, .int (nI (b_nm σ))), (5, .int (nI (b_nj σ))), (6, .int (nI (u_RL x (b_nm σ)).length)), (7, .int (nI 1)), (8, .int (nI (D + p * k + p))), (9, .int (nI j)), (10, .int (nI (k + 1)))]) ⟨rfl, rfl, rfl, rfl, rfl, rfl, rfl, rfl, rfl, rfl, rfl, trivial⟩ ?_
    exact K
set_option maxRecDepth 100000 in
set_option maxHeartbeats 1000000 in
theorem u_rows_j (hV : z_V α σ) (h : v_Inv σ x) (hL : u_L σ x) {y : bt_X} (r : u_R x y) (hs : u_sn y (u_RL x (b_nm σ))) : ∀ (n j : Nat), j + n = b_nj σ →
    bq_W G mL_areRows 8 158 [(0, .ref (bt_ad α 5 0)), (1, .ref (bt_ad α 8 35)), (2, .ref (bt_ad α 8 36)), (3, .ref (bt_ad α 8 39)), (4, .int (nI (b_nm σ))), (5, .int (nI (b_nj σ))), (6, .int (nI (u_RL x (b_nm σ)).length)), (7, .int (nI 1)), (8, .int (nI (u_PL σ j).length)), (9, .int (nI j))] [] (bt α σ y) (fun o w' => o = .inl (some (.int (nI 1))) ∧ ∃ x', u_R x x' ∧ w' = bt α σ x') := by
  have h8 := u_nj8 h
  intro n
  induction n with
  | zero =>
    intro j hj
    have ej : j = b_nj σ := by omega
    subst ej
    refine bq_iload (i := 9) dL_areRows_158 rfl ?_
    refine bq_iload (i := 5) dL_areRows_160 rfl ?_
    refine bq_icmp_ge (tgt := 226) dL_areRows_162 (by decide) (fun c_162 => ?_) (fun z9_ => absurd (Int32.le_refl _) z9_)
    refine bq_iload (i := 7) dL_areRows_226 rfl ?_
    refine bq_if_eq (tgt := 242) dL_areRows_228 (by decide) (fun z9_ => absurd z9_ (show ¬ nI 1 = 0 by decide)) (fun c_228 => ?_)
    refine bq_iload (i := 6) dL_areRows_231 rfl ?_
    refine bq_iload (i := 8) dL_areRows_233 rfl ?_
    refine bq_icmp_ne (tgt := 242) dL_areRows_235 (by decide) (fun z9_ => absurd (congrArg nI (u_RL_len h)) z9_) (fun c_235 => ?_)
    refine bq_iconst (v := (nI 1)) dL_areRows_238 (by decide) ?_
    refine bq_goto (tgt := 243) dL_areRows_239 (by decide) ?_
    exact bq_iret dL_areRows_243 rfl (by first | rfl | decide) ⟨rfl, y, r, rfl⟩
  | succ n ih =>
    intro j hjn
    have hj : j < b_nj σ := by omega
    have hp4 := u_np4 h hj
    obtain ⟨p, hp, hpl, hse⟩ : ∃ p, σ.1 0 j 3 = nI p ∧ (u_PL σ (j + 1)).length = (u_PL σ j).length + p * b_np σ j ∧ ∀ k, k < b_np σ j → y.1 8 39 (4 * j + k) = nI p := by
      have hdiv : ∀ k, k < b_np σ j → (4 * j + k) / 4 = j := fun k hk => by omega
      rcases u_job01 h hj with hp | ⟨hp, -⟩
      · refine ⟨0, hp, ?_, fun k hk => ?_⟩
        · show (u_PL σ j ++ _).length = _
          rw [if_neg (by rw [hp]; decide), List.append_nil]
          omega
        · rw [hs _ (by omega), if_neg (fun q => ?_)]
          have := ((u_PL_op h).mp ((u_RL_PL h).mp q)).2
          rw [hdiv k hk, hp] at this
          exact absurd this (by decide)
      · refine ⟨1, hp, ?_, fun k hk => ?_⟩
        · show (u_PL σ j ++ _).length = _
          rw [if_pos hp, List.length_append, List.length_range']
          omega
        · rw [hs _ (by omega), if_pos ((u_RL_PL h).mpr ((u_PL_op h).mpr ⟨(v_job_pl h hj hp hk).1, by rw [hdiv k hk]; exact hp⟩))]
    have K := ih (j + 1) (by omega)
    rw [hpl] at K
    refine bq_iload (i := 9) dL_areRows_158 rfl ?_
    refine bq_iload (i := 5) dL_areRows_160 rfl ?_
    refine bq_icmp_ge (tgt := 226) dL_areRows_162 (by decide) (fun z9_ => absurd z9_ (nI_ge hj (by omega))) (fun c_162 => ?_)
    refine bq_iconst (v := (nI 0)) dL_areRows_165 (by decide) ?_
    refine bq_istore (i := 10) dL_areRows_166 (by decide) ?_
    refine bq_lvs (lv' := [(0, .ref (bt_ad α 5 0)), (1, .ref (bt_ad α 8 35)), (2, .ref (bt_ad α 8 36)), (3, .ref (bt_ad α 8 39)), (4, .int (nI (b_nm σ))), (5, .int (nI (b_nj σ))), (6, .int (nI (u_RL x (b_nm σ)).length)), (7, .int (nI 1)), (8, .int (nI ((u_PL σ j).length + p * 0))), (9, .int (nI j)), (10, .int (nI 0))]) ⟨rfl, rfl, rfl, rfl, rfl, rfl, rfl, rfl, rfl, rfl, rfl, trivial⟩ ?_
    refine u_rows_jn hV h hL r hj hp hse ?_ _ 0 (Nat.zero_add _)
    refine bq_iinc dL_areRows_220 rfl (by decide) (by first | exact bp_inc _ | rfl) ?_
    refine bq_goto (tgt := 158) dL_areRows_223 (by decide) ?_
    refine bq_lvs (lv' := [(0, .ref (bt_ad α 5 0)), (1, .ref (bt_ad α 8 35)), (2, .ref (bt_ad α 8 36)), (3, .ref (bt_ad α 8 39)), (4, .int (nI (b_nm σ))), (5, .int (nI (b_nj σ))), (6, .int (nI (u_RL x (b_nm σ)).length)), (7, .int (nI 1)), (8, .int (nI ((u_PL σ j).length + p * b_np σ j))), (9, .int (nI (j + 1)))]) ⟨rfl, rfl, rfl, rfl, rfl, rfl, rfl, rfl, rfl, rfl, trivial⟩ ?_
    exact K
set_option maxRecDepth 100000 in
set_option maxHeartbeats 1000000 in
theorem u_areRows (hV : z_V α σ) (h : v_Inv σ x) (hL : u_L σ x) (hroom : bt_us α + 110 ≤ bp_max) :
    bq_S G mL_areRows 8 [.ref (bt_ad α 5 0), .ref (bt_ad α 8 35), .ref (bt_ad α 8 36), .ref (bt_ad α 8 39), .int (nI (b_nm σ)), .int (nI (b_nj σ))] (bt α σ x) (fun o w' => o = .inl (some (.int (nI 1))) ∧ ∃ x', u_R x x' ∧ w' = bt α σ x') := by
  refine bq_ofW (by decide +kernel) rfl (Nat.le_of_ble_eq_true rfl) ?_
  refine bq_iconst (v := (nI 0)) dL_areRows_0 (by decide) ?_
  refine bq_istore (i := 6) dL_areRows_1 (by decide) ?_
  refine bq_iconst (v := (nI 1)) dL_areRows_3 (by decide) ?_
  refine bq_istore (i := 7) dL_areRows_4 (by decide) ?_
  refine bq_iconst (v := (nI 0)) dL_areRows_6 (by decide) ?_
  refine bq_istore (i := 8) dL_areRows_7 (by decide) ?_
  refine bq_lvs (lv' := [(0, .ref (bt_ad α 5 0)), (1, .ref (bt_ad α 8 35)), (2, .ref (bt_ad α 8 36)), (3, .ref (bt_ad α 8 39)), (4, .int (nI (b_nm σ))), (5, .int (nI (b_nj σ))), (6, .int (nI 0)), (7, .int (nI 1)), (8, .int (nI 0))]) ⟨rfl, rfl, rfl, rfl, rfl, rfl, rfl, rfl, rfl, trivial⟩ ?_
  refine u_rows_0 hV (fun y r hs => ?_) _ 0 x (Nat.zero_add _) u_R.rf (fun i hi => absurd hi (Nat.not_lt_zero i))
  refine bq_iconst (v := (nI 0)) dL_areRows_27 (by decide) ?_
  refine bq_istore (i := 8) dL_areRows_28 (by decide) ?_
  refine bq_lvs (lv' := [(0, .ref (bt_ad α 5 0)), (1, .ref (bt_ad α 8 35)), (2, .ref (bt_ad α 8 36)), (3, .ref (bt_ad α 8 39)), (4, .int (nI (b_nm σ))), (5, .int (nI (b_nj σ))), (6, .int (nI (u_RL x 0).length)), (7, .int (nI 1)), (8, .int (nI 0))]) ⟨rfl, rfl, rfl, rfl, rfl, rfl, rfl, rfl, rfl, trivial⟩ ?_
  refine u_rows_m hV h hroom (fun y r hs => ?_) _ 0 y (Nat.zero_add _) r hs
  refine bq_iconst (v := (nI 0)) dL_areRows_152 (by decide) ?_
  refine bq_istore (i := 8) dL_areRows_153 (by decide) ?_
  refine bq_iconst (v := (nI 0)) dL_areRows_155 (by decide) ?_
  refine bq_istore (i := 9) dL_areRows_156 (by decide) ?_
  refine bq_lvs (lv' := [(0, .ref (bt_ad α 5 0)), (1, .ref (bt_ad α 8 35)), (2, .ref (bt_ad α 8 36)), (3, .ref (bt_ad α 8 39)), (4, .int (nI (b_nm σ))), (5, .int (nI (b_nj σ))), (6, .int (nI (u_RL x (b_nm σ)).length)), (7, .int (nI 1)), (8, .int (nI (u_PL σ 0).length)), (9, .int (nI 0))]) ⟨rfl, rfl, rfl, rfl, rfl, rfl, rfl, rfl, rfl, rfl, trivial⟩ ?_
  exact u_rows_j hV h hL r hs _ 0 (Nat.zero_add _)
end URW
