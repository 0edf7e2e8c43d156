/-! ===== addMachine, addJob, addOperation ===== -/
theorem x_mA_J {α : bt_A} {σ x : bt_X} {m q0 q : Nat} (J : bt_J α σ x) (hm : m < 4) (hn : ¬ bt_V α 1 m) : bt_J (x_mA α m q0 q) (x_mS σ m) (x_mX x m) := by
  obtain ⟨⟨a1, a2, a3, a4, a5, a6, a7⟩, b, c, d, e, f⟩ := J
  have i2 : ∀ c' i', bt_V α c' i' → bt_V (x_mA α m q0 q) c' i' := fun c' i' h => Or.inl (Or.inl h)
  have o2 : ∀ i', bt_V (x_mA α m q0 q) 2 i' → bt_V α 2 i' := fun i' h => by rcases h with (h | h) | h <;> first | exact h | omega
  have es : ∀ o k, (x_mS σ m).1 2 o k = σ.1 2 o k := fun o k => x_O_n (by omega)
  have er : ∀ o k, (x_mS σ m).2.1 2 o k = σ.2.1 2 o k := fun o k => x_O_nr (by omega)
  have ex : ∀ o k, (x_mX x m).2.1 2 o k = x.2.1 2 o k := fun o k => by unfold x_mX; rw [bt_lp_21, x_O_nr (by omega)]
  refine ⟨⟨i2 _ _ a1, i2 _ _ a2, i2 _ _ a3, i2 _ _ a4, i2 _ _ a5, i2 _ _ a6, i2 _ _ a7⟩, fun n hn' => ⟨i2 _ _ (b n hn').1, (b n hn').2⟩, fun m' h => ?_, fun j h => ?_, fun o h => ?_, fun o h => ?_⟩
  · rcases h with (h | ⟨-, rfl⟩) | h
    · exact ⟨(c m' h).1, i2 _ _ (c m' h).2⟩
    · exact ⟨hm, Or.inr ⟨rfl, rfl⟩⟩
    · omega
  · rcases h with (h | h) | h
    · exact i2 _ _ (d j h)
    · omega
    · omega
  · obtain ⟨g1, ⟨m', g2, g3⟩, g4, g5, g6⟩ := e o (o2 o h)
    have ef : b_fn (x_mS σ m) o = b_fn σ o := by unfold b_fn; rw [es]
    exact ⟨i2 _ _ g1, ⟨m', (er o 2).trans g2, i2 _ _ g3⟩, by rw [es, ef]; exact g4, fun a z => i2 _ _ (g5 a ((er o 6).symm.trans z)), fun a z => i2 _ _ (g6 a ((er o 7).symm.trans z))⟩
  · obtain ⟨g1, g2⟩ := f o (o2 o h)
    exact ⟨fun a z => i2 _ _ (g1 a ((ex o 8).symm.trans z)), fun a z => i2 _ _ (g2 a ((ex o 9).symm.trans z))⟩
theorem x_jA_J {α : bt_A} {σ x : bt_X} {j q0 q : Nat} {due : Int32} (J : bt_J α σ x) : bt_J (x_jA α j q0 q) (x_jS σ j due) (x_jX x j) := by
  obtain ⟨⟨a1, a2, a3, a4, a5, a6, a7⟩, b, c, d, e, f⟩ := J
  have i2 : ∀ c' i', bt_V α c' i' → bt_V (x_jA α j q0 q) c' i' := fun c' i' h => Or.inl (Or.inl h)
  have o2 : ∀ i', bt_V (x_jA α j q0 q) 2 i' → bt_V α 2 i' := fun i' h => by rcases h with (h | h) | h <;> first | exact h | omega
  have es : ∀ o k, (x_jS σ j due).1 2 o k = σ.1 2 o k := fun o k => by unfold x_jS; rw [bt_lp_1, x_O_n (by omega)]
  have er : ∀ o k, (x_jS σ j due).2.1 2 o k = σ.2.1 2 o k := fun o k => by unfold x_jS; rw [bt_lp_21, x_O_nr (by omega)]
  have ex : ∀ o k, (x_jX x j).2.1 2 o k = x.2.1 2 o k := fun o k => x_O_nr (by omega)
  refine ⟨⟨i2 _ _ a1, i2 _ _ a2, i2 _ _ a3, i2 _ _ a4, i2 _ _ a5, i2 _ _ a6, i2 _ _ a7⟩, fun n hn' => ⟨i2 _ _ (b n hn').1, (b n hn').2⟩, fun m' h => ?_, fun j' h => ?_, fun o h => ?_, fun o h => ?_⟩
  · rcases h with (h | h) | h
    · exact ⟨(c m' h).1, i2 _ _ (c m' h).2⟩
    · omega
    · omega
  · rcases h with (h | ⟨-, rfl⟩) | h
    · exact i2 _ _ (d j' h)
    · exact Or.inr ⟨rfl, rfl⟩
    · omega
  · obtain ⟨g1, ⟨m', g2, g3⟩, g4, g5, g6⟩ := e o (o2 o h)
    have ef : b_fn (x_jS σ j due) o = b_fn σ o := by unfold b_fn; rw [es]
    exact ⟨i2 _ _ g1, ⟨m', (er o 2).trans g2, i2 _ _ g3⟩, by rw [es, ef]; exact g4, fun a z => i2 _ _ (g5 a ((er o 6).symm.trans z)), fun a z => i2 _ _ (g6 a ((er o 7).symm.trans z))⟩
  · obtain ⟨g1, g2⟩ := f o (o2 o h)
    exact ⟨fun a z => i2 _ _ (g1 a ((ex o 8).symm.trans z)), fun a z => i2 _ _ (g2 a ((ex o 9).symm.trans z))⟩
theorem x_oA_J {α : bt_A} {σ x : bt_X} {o m q0 : Nat} {n l f t : Int32} (J : bt_J α σ x) (hn : ¬ bt_V α 2 o) (hj : bt_V α 0 (o / 4)) (hm : bt_V α 1 m) {F : Nat} (hf : f = nI F) (hF : F < 4) : bt_J (x_oA α o q0) (x_oS σ o m n l f t) (x_oX x o) := by
  obtain ⟨⟨a1, a2, a3, a4, a5, a6, a7⟩, b, c, d, e, f'⟩ := J
  have i2 : ∀ c' i', bt_V α c' i' → bt_V (x_oA α o q0) c' i' := fun c' i' h => Or.inl h
  refine ⟨⟨i2 _ _ a1, i2 _ _ a2, i2 _ _ a3, i2 _ _ a4, i2 _ _ a5, i2 _ _ a6, i2 _ _ a7⟩, fun n hn' => ⟨i2 _ _ (b n hn').1, (b n hn').2⟩, fun m' h => ?_, fun j' h => ?_, fun u h => ?_, fun u h => ?_⟩
  · rcases h with h | h
    · exact ⟨(c m' h).1, i2 _ _ (c m' h).2⟩
    · omega
  · rcases h with h | h
    · exact i2 _ _ (d j' h)
    · omega
  · by_cases eu : u = o
    · subst eu
      have e4 : (x_oS σ u m n l f t).1 2 u 4 = nI F := by unfold x_oS; rw [x_O_at, ← hf]; rfl
      have ef : b_fn (x_oS σ u m n l f t) u = F := by
        unfold b_fn
        rw [e4, nI_toInt (by omega)]
        rfl
      refine ⟨i2 _ _ hj, ⟨m, by unfold x_oS; rw [x_O_atr]; rfl, i2 _ _ hm⟩, by rw [e4, ef]; exact ⟨rfl, hF⟩, fun a z => ?_, fun a z => ?_⟩
      · unfold x_oS at z; rw [x_O_atr] at z; cases z
      · unfold x_oS at z; rw [x_O_atr] at z; cases z
    · have hu : bt_V α 2 u := by
        rcases h with h | h
        · exact h
        · exact absurd h.2 eu
      have es : ∀ k, (x_oS σ o m n l f t).1 2 u k = σ.1 2 u k := fun k => x_O_n (fun z => eu z.2)
      have er : ∀ k, (x_oS σ o m n l f t).2.1 2 u k = σ.2.1 2 u k := fun k => x_O_nr (fun z => eu z.2)
      obtain ⟨g1, ⟨m', g2, g3⟩, g4, g5, g6⟩ := e u hu
      have ef : b_fn (x_oS σ o m n l f t) u = b_fn σ u := by unfold b_fn; rw [es]
      exact ⟨i2 _ _ g1, ⟨m', (er 2).trans g2, i2 _ _ g3⟩, by rw [es, ef]; exact g4, fun a z => i2 _ _ (g5 a ((er 6).symm.trans z)), fun a z => i2 _ _ (g6 a ((er 7).symm.trans z))⟩
  · by_cases eu : u = o
    · subst eu
      refine ⟨fun a z => ?_, fun a z => ?_⟩
      · unfold x_oX at z; rw [x_O_atr] at z; cases z
      · unfold x_oX at z; rw [x_O_atr] at z; cases z
    · have hu : bt_V α 2 u := by
        rcases h with h | h
        · exact h
        · exact absurd h.2 eu
      have ex : ∀ k, (x_oX x o).2.1 2 u k = x.2.1 2 u k := fun k => x_O_nr (fun z => eu z.2)
      obtain ⟨g1, g2⟩ := f' u hu
      exact ⟨fun a z => i2 _ _ (g1 a ((ex 8).symm.trans z)), fun a z => i2 _ _ (g2 a ((ex 9).symm.trans z))⟩
theorem b_tl0 {α : bt_A} {σ x : bt_X} (h : b_Ok α σ x) : ¬ bt_V α 1 (b_nm σ) ∧ ¬ bt_V α 0 (b_nj σ) := ⟨fun z => absurd ((h.2.2.2.1 _).mp z) (Nat.lt_irrefl _), fun z => absurd ((h.2.2.2.2.1 _).mp z) (Nat.lt_irrefl _)⟩
/-- the lists that stand are those of what stands -/
def m_V7 (α : bt_A) (σ : bt_X) : Prop := (∀ n, bt_V α 7 n → n < 4 ∨ (4 ≤ n ∧ n < 4 + b_nm σ) ∨ (8 ≤ n ∧ n < 8 + b_nj σ)) ∧ ∀ i, bt_V α 2 i → ∃ j k, j < b_nj σ ∧ k < b_np σ j ∧ i = 4 * j + k
set_option maxRecDepth 100000 in
set_option maxHeartbeats 1000000 in
theorem k_addM {G : bp_X} {α : bt_A} {σ x : bt_X} (h : b_Ok α σ x) (h7 : m_V7 α σ) (hroom : bt_us α + 110 ≤ bp_max) (hlt : b_nm σ < 4) : bq_S G mX5_addMachine 8 [.ref (bt_ad α 5 0)] (bt α σ x) (fun o w' => ∃ q0 q, o = .inl (some (.int (nI (b_nm σ)))) ∧ w' = bt (x_mA α (b_nm σ) q0 q) (bt_lp (x_mS σ (b_nm σ)) 0 (σ.2.2 0 ++ [b_nm σ])) (x_mX x (b_nm σ))) := by
  have J := h.J
  have hS := h.S
  have hV := (b_tl0 h).1
  have hlen : (σ.2.2 0).length = b_nm σ := rfl
  have hL : ¬ bt_V α 7 (4 + b_nm σ) := fun z => by
    rcases h7.1 _ z with h | h | h
    · omega
    · omega
    · omega
  have hJ8 : ∀ j, bt_V α 0 j → j < 8 := fun j z => by
    have h1 := (h.2.2.2.2.1 j).mp z
    have h2 := hS.2.2.2.1
    omega
  refine bq_ofW (by decide +kernel) rfl (Nat.le_of_ble_eq_true rfl) ?_
  refine bq_aload_n (i := 0) dX5_addMachine_0 rfl ?_
  refine bt_get3 (c' := 4) (n := 0) dX5_addMachine_1 fl_X5_12 (by first | assumption | exact J.v3 | exact J.v4 | exact J.v5 | exact J.v6 | exact J.l0 | exact J.l1 | exact J.l2 | exact J.l3 | exact J.row (by assumption) | exact J.ops (by assumption) | exact J.job (by assumption)) ⟨rfl, rfl, rfl⟩ (by decide) ?_
  refine bt_get3 (c' := 7) (n := 0) dX5_addMachine_4 fl_X5_16 (by first | assumption | exact J.v3 | exact J.v4 | exact J.v5 | exact J.v6 | exact J.l0 | exact J.l1 | exact J.l2 | exact J.l3 | exact J.row (by assumption) | exact J.ops (by assumption) | exact J.job (by assumption)) ⟨rfl, rfl, rfl⟩ (by decide) ?_
  refine bt_size dX5_addMachine_7 ml_X5_20 (by first | assumption | exact J.v3 | exact J.v4 | exact J.v5 | exact J.v6 | exact J.l0 | exact J.l1 | exact J.l2 | exact J.l3 | exact J.row (by assumption) | exact J.ops (by assumption) | exact J.job (by assumption)) rfl (by decide) (Nat.le_of_ble_eq_true rfl) ?_
  refine bq_iconst (v := (nI 4)) dX5_addMachine_10 (by decide) ?_
  refine bq_icmp_lt (tgt := 24) dX5_addMachine_11 (by decide) (fun c_11 => ?_) (fun z9_ => absurd (show nI (σ.2.2 0).length < nI 4 from nI_lt hlt (by decide)) z9_)
  refine bq_aload_n (i := 0) dX5_addMachine_24 rfl ?_
  refine bt_get3 (c' := 4) (n := 0) dX5_addMachine_25 fl_X5_12 (by first | assumption | exact J.v3 | exact J.v4 | exact J.v5 | exact J.v6 | exact J.l0 | exact J.l1 | exact J.l2 | exact J.l3 | exact J.row (by assumption) | exact J.ops (by assumption) | exact J.job (by assumption)) ⟨rfl, rfl, rfl⟩ (by decide) ?_
  refine bt_get3 (c' := 7) (n := 0) dX5_addMachine_28 fl_X5_16 (by first | assumption | exact J.v3 | exact J.v4 | exact J.v5 | exact J.v6 | exact J.l0 | exact J.l1 | exact J.l2 | exact J.l3 | exact J.row (by assumption) | exact J.ops (by assumption) | exact J.job (by assumption)) ⟨rfl, rfl, rfl⟩ (by decide) ?_
  refine bq_newo (c := 1) (i := b_nm σ) dX5_addMachine_31 nw_X5_33 (by decide) hV (by show bt_us α + 8 ≤ bp_max; omega) (fun q0 => ?_)
  rw [bq_n_ad]
  refine bq_dup dX5_addMachine_34 rfl ?_
  have i3 := i_mach (G := G) (w := bq_n (bt α σ x) 1 (b_nm σ) q0 (bq_born tyX1) (0, 0) 8) hlt bq_nVr (bq_nNV hL (by omega)) (by show bt_us α + 8 + 88 ≤ bp_max; omega)
  rw [bq_n_ad] at i3
  refine bq_callIp dX5_addMachine_35 ml_X5_35 i3 (by decide) (by decide) (Nat.le_of_ble_eq_true rfl) rfl (fun v_35 w_35 p_35 => ?_)
  obtain ⟨rfl, q, rfl⟩ := p_35
  refine x_mach J hV hL hlt hJ8 ?_
  have J2 := x_mA_J (q0 := q0) (q := q) J hlt hV
  have e1 : bt_ad (x_mA α (b_nm σ) q0 q) 1 (b_nm σ) = q0 := by unfold x_mA; rw [x_A_ado (by omega), x_A_ad]
  have e7 : bt_ad (x_mA α (b_nm σ) q0 q) 7 0 = bt_ad α 7 0 := by unfold x_mA; rw [x_A_ado (by omega), x_A_ado (by omega)]
  have e5 : bt_ad (x_mA α (b_nm σ) q0 q) 5 0 = bt_ad α 5 0 := by unfold x_mA; rw [x_A_ado (by omega), x_A_ado (by omega)]
  have hV1 : bt_V (x_mA α (b_nm σ) q0 q) 1 (b_nm σ) := Or.inl (Or.inr ⟨rfl, rfl⟩)
  refine bq_eqs (st2 := [.ref (bt_ad (x_mA α (b_nm σ) q0 q) 1 (b_nm σ)), .ref (bt_ad (x_mA α (b_nm σ) q0 q) 7 0)]) (by rw [e1, e7]; rfl) ?_
  refine bq_lvs (lv' := [(0, .ref (bt_ad (x_mA α (b_nm σ) q0 q) 5 0))]) ⟨by rw [e5]; rfl, trivial⟩ ?_
  generalize hα : x_mA α (b_nm σ) q0 q = α2 at J2 hV1 ⊢
  clear e1 e7 e5
  have hl2 : ((x_mS σ (b_nm σ)).2.2 0).length < 33 := by show b_nm σ < 33; omega
  refine bt_adds (c := 1) dX5_addMachine_38 ml_X5_36 (by exact J2.l0) rfl (by first | rfl | exact rfl.symm) (by exact hV1) (by exact hl2) (by decide) (Nat.le_of_ble_eq_true rfl) ?_
  refine bq_pop dX5_addMachine_41 rfl ?_
  refine bq_aload_n (i := 0) dX5_addMachine_42 rfl ?_
  refine bt_get3 (c' := 4) (n := 0) dX5_addMachine_43 fl_X5_12 (by exact J2.v5) ⟨rfl, rfl, rfl⟩ (by decide) ?_
  refine bt_get3 (c' := 7) (n := 0) dX5_addMachine_46 fl_X5_16 (by exact J2.v4) ⟨rfl, rfl, rfl⟩ (by decide) ?_
  refine bt_size dX5_addMachine_49 ml_X5_20 (by exact J2.l0) rfl (by decide) (Nat.le_of_ble_eq_true rfl) ?_
  refine bq_iconst (v := (nI 1)) dX5_addMachine_52 (by decide) ?_
  refine bq_isub dX5_addMachine_53 ?_
  exact bq_iret dX5_addMachine_54 rfl (by first | rfl | decide) ⟨q0, q, by
    show Sum.inl (some (Value.int (nI (σ.2.2 0 ++ [b_nm σ]).length - nI 1))) = _
    rw [List.length_append, hlen]
    show Sum.inl (some (Value.int (nI (b_nm σ + 1) - nI 1))) = _
    rw [pk_sub (by omega), Nat.add_sub_cancel], by subst hα; rfl⟩
set_option maxRecDepth 100000 in
set_option maxHeartbeats 400000 in
theorem k_addMN {G : bp_X} {α : bt_A} {σ x : bt_X} (h : b_Ok α σ x) (hroom : bt_us α + 110 ≤ bp_max) (hlt : ¬ b_nm σ < 4) : bq_S G mX5_addMachine 8 [.ref (bt_ad α 5 0)] (bt α σ x) (bq_end (.inr b_IS) (bt (bt_rm α) σ x)) := by
  have J := h.J
  have hb : b_nm σ ≤ 4 := h.S.2.1
  have hroom7 : bt_us α + 7 ≤ bp_max := by omega
  refine bq_ofW (by decide +kernel) rfl (Nat.le_of_ble_eq_true rfl) ?_
  refine bq_aload_n (i := 0) dX5_addMachine_0 rfl ?_
  refine bt_get3 (c' := 4) (n := 0) dX5_addMachine_1 fl_X5_12 (by first | assumption | exact J.v3 | exact J.v4 | exact J.v5 | exact J.v6 | exact J.l0 | exact J.l1 | exact J.l2 | exact J.l3 | exact J.row (by assumption) | exact J.ops (by assumption) | exact J.job (by assumption)) ⟨rfl, rfl, rfl⟩ (by decide) ?_
  refine bt_get3 (c' := 7) (n := 0) dX5_addMachine_4 fl_X5_16 (by first | assumption | exact J.v3 | exact J.v4 | exact J.v5 | exact J.v6 | exact J.l0 | exact J.l1 | exact J.l2 | exact J.l3 | exact J.row (by assumption) | exact J.ops (by assumption) | exact J.job (by assumption)) ⟨rfl, rfl, rfl⟩ (by decide) ?_
  refine bt_size dX5_addMachine_7 ml_X5_20 (by first | assumption | exact J.v3 | exact J.v4 | exact J.v5 | exact J.v6 | exact J.l0 | exact J.l1 | exact J.l2 | exact J.l3 | exact J.row (by assumption) | exact J.ops (by assumption) | exact J.job (by assumption)) rfl (by decide) (Nat.le_of_ble_eq_true rfl) ?_
  refine bq_iconst (v := (nI 4)) dX5_addMachine_10 (by decide) ?_
  refine bq_icmp_lt (tgt := 24) dX5_addMachine_11 (by decide) (fun z9_ => absurd z9_ (show ¬ nI (σ.2.2 0).length < nI 4 from nI_nlt (by show 4 ≤ b_nm σ; omega) (by show b_nm σ < 2 ^ 31; omega))) (fun c_11 => ?_)
  exact bq_throw dX5_addMachine_14 dX5_addMachine_17 dX5_addMachine_18 dX5_addMachine_20 dX5_addMachine_23 tw_26_28_30 rfl (by decide) (Nat.le_of_ble_eq_true rfl) hroom7 ⟨rfl, rfl⟩
set_option maxRecDepth 100000 in
set_option maxHeartbeats 1000000 in
theorem k_addJ {G : bp_X} {α : bt_A} {σ x : bt_X} {due : Int32} (h : b_Ok α σ x) (h7 : m_V7 α σ) (hroom : bt_us α + 110 ≤ bp_max) (h1 : ¬ due < 0) (h2 : due ≤ nI 10000) (hlt : b_nj σ < 8) : bq_S G mX5_addJob 8 [.ref (bt_ad α 5 0), .int due] (bt α σ x) (fun o w' => ∃ q0 q, o = .inl (some (.int (nI (b_nj σ)))) ∧ w' = bt (x_jA α (b_nj σ) q0 q) (bt_lp (x_jS σ (b_nj σ) due) 1 (σ.2.2 1 ++ [b_nj σ])) (x_jX x (b_nj σ))) := by
  have J := h.J
  have hS := h.S
  have hV := (b_tl0 h).2
  have hlen : (σ.2.2 1).length = b_nj σ := rfl
  have hnm : b_nm σ ≤ 4 := hS.2.1
  have hL : ¬ bt_V α 7 (8 + b_nj σ) := fun z => by
    rcases h7.1 _ z with h | h | h
    · omega
    · omega
    · omega
  refine bq_ofW (by decide +kernel) rfl (Nat.le_of_ble_eq_true rfl) ?_
  refine bq_iload_n (i := 1) dX5_addJob_0 rfl ?_
  refine bq_if_lt (tgt := 11) dX5_addJob_1 (by decide) (fun z9_ => absurd z9_ h1) (fun c_1 => ?_)
  refine bq_iload_n (i := 1) dX5_addJob_4 rfl ?_
  refine bq_sipush (v := (nI 10000)) dX5_addJob_5 (by decide) ?_
  refine bq_icmp_le (tgt := 21) dX5_addJob_8 (by decide) (fun c_8 => ?_) (fun z9_ => absurd h2 z9_)
  refine bq_aload_n (i := 0) dX5_addJob_21 rfl ?_
  refine bt_get3 (c' := 4) (n := 0) dX5_addJob_22 fl_X5_12 (by first | assumption | exact J.v3 | exact J.v4 | exact J.v5 | exact J.v6 | exact J.l0 | exact J.l1 | exact J.l2 | exact J.l3 | exact J.row (by assumption) | exact J.ops (by assumption) | exact J.job (by assumption)) ⟨rfl, rfl, rfl⟩ (by decide) ?_
  refine bt_get3 (c' := 7) (n := 1) dX5_addJob_25 fl_X5_81 (by first | assumption | exact J.v3 | exact J.v4 | exact J.v5 | exact J.v6 | exact J.l0 | exact J.l1 | exact J.l2 | exact J.l3 | exact J.row (by assumption) | exact J.ops (by assumption) | exact J.job (by assumption)) ⟨rfl, rfl, rfl⟩ (by decide) ?_
  refine bt_size dX5_addJob_28 ml_X5_20 (by first | assumption | exact J.v3 | exact J.v4 | exact J.v5 | exact J.v6 | exact J.l0 | exact J.l1 | exact J.l2 | exact J.l3 | exact J.row (by assumption) | exact J.ops (by assumption) | exact J.job (by assumption)) rfl (by decide) (Nat.le_of_ble_eq_true rfl) ?_
  refine bq_bipush (v := (nI 8)) dX5_addJob_31 (by decide) ?_
  refine bq_icmp_lt (tgt := 46) dX5_addJob_33 (by decide) (fun c_33 => ?_) (fun z9_ => absurd (show nI (σ.2.2 1).length < nI 8 from nI_lt hlt (by decide)) z9_)
  refine bq_aload_n (i := 0) dX5_addJob_46 rfl ?_
  refine bt_get3 (c' := 4) (n := 0) dX5_addJob_47 fl_X5_12 (by first | assumption | exact J.v3 | exact J.v4 | exact J.v5 | exact J.v6 | exact J.l0 | exact J.l1 | exact J.l2 | exact J.l3 | exact J.row (by assumption) | exact J.ops (by assumption) | exact J.job (by assumption)) ⟨rfl, rfl, rfl⟩ (by decide) ?_
  refine bt_get3 (c' := 7) (n := 1) dX5_addJob_50 fl_X5_81 (by first | assumption | exact J.v3 | exact J.v4 | exact J.v5 | exact J.v6 | exact J.l0 | exact J.l1 | exact J.l2 | exact J.l3 | exact J.row (by assumption) | exact J.ops (by assumption) | exact J.job (by assumption)) ⟨rfl, rfl, rfl⟩ (by decide) ?_
  refine bq_newo (c := 0) (i := b_nj σ) dX5_addJob_53 nw_X5_86 (by decide) hV (by show bt_us α + 6 ≤ bp_max; omega) (fun q0 => ?_)
  rw [bq_n_ad]
  refine bq_dup dX5_addJob_56 rfl ?_
  refine bq_aload_n (i := 0) dX5_addJob_57 rfl ?_
  have n5 : bq_ad (bq_n (bt α σ x) 0 (b_nj σ) q0 (bq_born tyX0) (0, 0) 6) 5 0 = bt_ad α 5 0 := bq_n_ado (by omega)
  have n4 : bq_ad (bq_n (bt α σ x) 0 (b_nj σ) q0 (bq_born tyX0) (0, 0) 6) 4 0 = bt_ad α 4 0 := bq_n_ado (by omega)
  have n7 : bq_ad (bq_n (bt α σ x) 0 (b_nj σ) q0 (bq_born tyX0) (0, 0) 6) 7 1 = bt_ad α 7 1 := bq_n_ado (by omega)
  refine bq_eqs (st2 := .ref (bq_ad (bq_n (bt α σ x) 0 (b_nj σ) q0 (bq_born tyX0) (0, 0) 6) 5 0) :: [.ref q0, .ref q0, .ref (bt_ad α 7 1)]) (by rw [n5]) ?_
  refine bq_getf (x := .ref (bq_ad (bq_n (bt α σ x) 0 (b_nj σ) q0 (bq_born tyX0) (0, 0) 6) 4 0)) dX5_addJob_58 fl_X5_12 (Or.inl J.v5) (by rw [n4]; rfl) (by decide) ?_
  refine bq_getf (x := .ref (bq_ad (bq_n (bt α σ x) 0 (b_nj σ) q0 (bq_born tyX0) (0, 0) 6) 7 1)) dX5_addJob_61 fl_X5_81 (Or.inl J.v4) (by rw [n7]; rfl) (by decide) ?_
  refine bq_size dX5_addJob_64 ml_X5_20 (Or.inl J.l1) (by decide) (Nat.le_of_ble_eq_true rfl) ?_
  rw [show (bq_ls (bq_n (bt α σ x) 0 (b_nj σ) q0 (bq_born tyX0) (0, 0) 6) 1).length = b_nj σ from rfl]
  refine bq_iload_n (i := 1) dX5_addJob_67 rfl ?_
  have i3 := i_job (G := G) (w := bq_n (bt α σ x) 0 (b_nj σ) q0 (bq_born tyX0) (0, 0) 6) (n := nI (b_nj σ)) (due := due) hlt bq_nVr (bq_nNV hL (by omega)) (by show bt_us α + 6 + 88 ≤ bp_max; omega)
  rw [bq_n_ad] at i3
  refine bq_callIp dX5_addJob_68 ml_X5_88 i3 (by decide) (by decide) (Nat.le_of_ble_eq_true rfl) rfl (fun v_35 w_35 p_35 => ?_)
  obtain ⟨rfl, q, rfl⟩ := p_35
  refine x_job J hV hL ?_
  have J2 := x_jA_J (j := b_nj σ) (q0 := q0) (q := q) (due := due) J
  have e1 : bt_ad (x_jA α (b_nj σ) q0 q) 0 (b_nj σ) = q0 := by unfold x_jA; rw [x_A_ado (by omega), x_A_ad]
  have e7 : bt_ad (x_jA α (b_nj σ) q0 q) 7 1 = bt_ad α 7 1 := by unfold x_jA; rw [x_A_ado (by omega), x_A_ado (by omega)]
  have e5 : bt_ad (x_jA α (b_nj σ) q0 q) 5 0 = bt_ad α 5 0 := by unfold x_jA; rw [x_A_ado (by omega), x_A_ado (by omega)]
  have hV1 : bt_V (x_jA α (b_nj σ) q0 q) 0 (b_nj σ) := Or.inl (Or.inr ⟨rfl, rfl⟩)
  refine bq_eqs (st2 := [.ref (bt_ad (x_jA α (b_nj σ) q0 q) 0 (b_nj σ)), .ref (bt_ad (x_jA α (b_nj σ) q0 q) 7 1)]) (by rw [e1, e7]; rfl) ?_
  refine bq_lvs (lv' := [(0, .ref (bt_ad (x_jA α (b_nj σ) q0 q) 5 0))]) ⟨by rw [e5]; rfl, trivial⟩ ?_
  generalize hα : x_jA α (b_nj σ) q0 q = α2 at J2 hV1 ⊢
  clear e1 e7 e5
  have ek : (x_jS σ (b_nj σ) due).2.2 1 = σ.2.2 1 := bt_lp_ne (by omega)
  have hl2 : ((x_jS σ (b_nj σ) due).2.2 1).length < 33 := by rw [ek]; show b_nj σ < 33; omega
  refine bt_adds (c := 0) dX5_addJob_71 ml_X5_36 (by exact J2.l1) rfl (by first | rfl | exact rfl.symm) (by exact hV1) (by exact hl2) (by decide) (Nat.le_of_ble_eq_true rfl) ?_
  rw [ek]
  refine bq_pop dX5_addJob_74 rfl ?_
  refine bq_aload_n (i := 0) dX5_addJob_75 rfl ?_
  refine bt_get3 (c' := 4) (n := 0) dX5_addJob_76 fl_X5_12 (by exact J2.v5) ⟨rfl, rfl, rfl⟩ (by decide) ?_
  refine bt_get3 (c' := 7) (n := 1) dX5_addJob_79 fl_X5_81 (by exact J2.v4) ⟨rfl, rfl, rfl⟩ (by decide) ?_
  refine bt_size dX5_addJob_82 ml_X5_20 (by exact J2.l1) rfl (by decide) (Nat.le_of_ble_eq_true rfl) ?_
  refine bq_iconst (v := (nI 1)) dX5_addJob_85 (by decide) ?_
  refine bq_isub dX5_addJob_86 ?_
  exact bq_iret dX5_addJob_87 rfl (by first | rfl | decide) ⟨q0, q, by
    show Sum.inl (some (Value.int (nI (σ.2.2 1 ++ [b_nj σ]).length - nI 1))) = _
    rw [List.length_append, hlen]
    show Sum.inl (some (Value.int (nI (b_nj σ + 1) - nI 1))) = _
    rw [pk_sub (by omega), Nat.add_sub_cancel], by subst hα; rfl⟩
set_option maxRecDepth 100000 in
set_option maxHeartbeats 400000 in
theorem k_addJA {G : bp_X} {α : bt_A} {σ x : bt_X} {due : Int32} (h : b_Ok α σ x) (hroom : bt_us α + 110 ≤ bp_max) (hd : due < 0 ∨ ¬ due ≤ nI 10000) : bq_S G mX5_addJob 8 [.ref (bt_ad α 5 0), .int due] (bt α σ x) (bq_end (.inr b_IA) (bt (bt_rm α) σ x)) := by
  have J := h.J
  have hb : b_nj σ ≤ 8 := h.S.2.2.2.1
  have hroom7 : bt_us α + 7 ≤ bp_max := by omega
  refine bq_ofW (by decide +kernel) rfl (Nat.le_of_ble_eq_true rfl) ?_
  by_cases h1 : due < 0
  · refine bq_iload_n (i := 1) dX5_addJob_0 rfl ?_
    refine bq_if_lt (tgt := 11) dX5_addJob_1 (by decide) (fun c_1 => ?_) (fun z9_ => absurd h1 z9_)
    exact bq_throw dX5_addJob_11 dX5_addJob_14 dX5_addJob_15 dX5_addJob_17 dX5_addJob_20 tw_44_79_48 rfl (by decide) (Nat.le_of_ble_eq_true rfl) hroom7 ⟨rfl, rfl⟩
  · refine bq_iload_n (i := 1) dX5_addJob_0 rfl ?_
    refine bq_if_lt (tgt := 11) dX5_addJob_1 (by decide) (fun z9_ => absurd z9_ h1) (fun c_1 => ?_)
    refine bq_iload_n (i := 1) dX5_addJob_4 rfl ?_
    refine bq_sipush (v := (nI 10000)) dX5_addJob_5 (by decide) ?_
    refine bq_icmp_le (tgt := 21) dX5_addJob_8 (by decide) (fun z9_ => absurd z9_ (hd.resolve_left h1)) (fun c_8 => ?_)
    exact bq_throw dX5_addJob_11 dX5_addJob_14 dX5_addJob_15 dX5_addJob_17 dX5_addJob_20 tw_44_79_48 rfl (by decide) (Nat.le_of_ble_eq_true rfl) hroom7 ⟨rfl, rfl⟩
set_option maxRecDepth 100000 in
set_option maxHeartbeats 400000 in
theorem k_addJN {G : bp_X} {α : bt_A} {σ x : bt_X} {due : Int32} (h : b_Ok α σ x) (hroom : bt_us α + 110 ≤ bp_max) (h1 : ¬ due < 0) (h2 : due ≤ nI 10000) (hlt : ¬ b_nj σ < 8) : bq_S G mX5_addJob 8 [.ref (bt_ad α 5 0), .int due] (bt α σ x) (bq_end (.inr b_IS) (bt (bt_rm α) σ x)) := by
  have J := h.J
  have hb : b_nj σ ≤ 8 := h.S.2.2.2.1
  have hroom7 : bt_us α + 7 ≤ bp_max := by omega
  refine bq_ofW (by decide +kernel) rfl (Nat.le_of_ble_eq_true rfl) ?_
  refine bq_iload_n (i := 1) dX5_addJob_0 rfl ?_
  refine bq_if_lt (tgt := 11) dX5_addJob_1 (by decide) (fun z9_ => absurd z9_ h1) (fun c_1 => ?_)
  refine bq_iload_n (i := 1) dX5_addJob_4 rfl ?_
  refine bq_sipush (v := (nI 10000)) dX5_addJob_5 (by decide) ?_
  refine bq_icmp_le (tgt := 21) dX5_addJob_8 (by decide) (fun c_8 => ?_) (fun z9_ => absurd h2 z9_)
  refine bq_aload_n (i := 0) dX5_addJob_21 rfl ?_
  refine bt_get3 (c' := 4) (n := 0) dX5_addJob_22 fl_X5_12 (by first | assumption | exact J.v3 | exact J.v4 | exact J.v5 | exact J.v6 | exact J.l0 | exact J.l1 | exact J.l2 | exact J.l3 | exact J.row (by assumption) | exact J.ops (by assumption) | exact J.job (by assumption)) ⟨rfl, rfl, rfl⟩ (by decide) ?_
  refine bt_get3 (c' := 7) (n := 1) dX5_addJob_25 fl_X5_81 (by first | assumption | exact J.v3 | exact J.v4 | exact J.v5 | exact J.v6 | exact J.l0 | exact J.l1 | exact J.l2 | exact J.l3 | exact J.row (by assumption) | exact J.ops (by assumption) | exact J.job (by assumption)) ⟨rfl, rfl, rfl⟩ (by decide) ?_
  refine bt_size dX5_addJob_28 ml_X5_20 (by first | assumption | exact J.v3 | exact J.v4 | exact J.v5 | exact J.v6 | exact J.l0 | exact J.l1 | exact J.l2 | exact J.l3 | exact J.row (by assumption) | exact J.ops (by assumption) | exact J.job (by assumption)) rfl (by decide) (Nat.le_of_ble_eq_true rfl) ?_
  refine bq_bipush (v := (nI 8)) dX5_addJob_31 (by decide) ?_
  refine bq_icmp_lt (tgt := 46) dX5_addJob_33 (by decide) (fun z9_ => absurd z9_ (show ¬ nI (σ.2.2 1).length < nI 8 from nI_nlt (by show 8 ≤ b_nj σ; omega) (by show b_nj σ < 2 ^ 31; omega))) (fun c_33 => ?_)
  exact bq_throw dX5_addJob_36 dX5_addJob_39 dX5_addJob_40 dX5_addJob_42 dX5_addJob_45 tw_26_84_30 rfl (by decide) (Nat.le_of_ble_eq_true rfl) hroom7 ⟨rfl, rfl⟩

