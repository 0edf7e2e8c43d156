/-! ===== the law: its loop ===== -/
section ULP
variable {α : bt_A} {σ x : bt_X} {G : bp_X} {Φ : bp_O → bq_O → Prop} {t : Nat}
set_option maxRecDepth 100000 in
set_option maxHeartbeats 1000000 in
theorem u_tail (hV : z_V α σ) (h : v_Inv σ x) (hL : u_L σ x) (hroom : bt_us α + 110 ≤ bp_max) (kk : ∀ y, u_R x y → bq_W G mL_law 13 652 [(0, .ref (bp_sb G)), (1, .ref (bt_ad α 5 0)), (2, .ref (bt_ad α 8 35)), (3, .ref (bt_ad α 8 36)), (4, .ref (bt_ad α 8 37)), (5, .ref (bt_ad α 8 38)), (6, .ref (bt_ad α 8 39)), (7, .int (nI (b_nm σ))), (8, .int (nI (b_nj σ))), (9, .int (nI t))] [] (bt α σ y) Φ) :
    bq_W G mL_law 13 615 [(0, .ref (bp_sb G)), (1, .ref (bt_ad α 5 0)), (2, .ref (bt_ad α 8 35)), (3, .ref (bt_ad α 8 36)), (4, .ref (bt_ad α 8 37)), (5, .ref (bt_ad α 8 38)), (6, .ref (bt_ad α 8 39)), (7, .int (nI (b_nm σ))), (8, .int (nI (b_nj σ))), (9, .int (nI t)), (13, .int (nI 1))] [] (bt α σ x) Φ := by
  refine bq_iload (i := 13) dL_law_615 rfl ?_
  refine bq_if_eq (tgt := 650) dL_law_617 (by decide) (fun z9_ => absurd z9_ (show ¬ nI 1 = 0 by decide)) (fun c_617 => ?_)
  refine bq_aload_n (i := 1) dL_law_620 rfl ?_
  refine bq_aload_n (i := 2) dL_law_621 rfl ?_
  refine bq_aload_n (i := 3) dL_law_622 rfl ?_
  refine bq_aload (i := 6) dL_law_623 rfl ?_
  refine bq_iload (i := 7) dL_law_625 rfl ?_
  refine bq_iload (i := 8) dL_law_627 rfl ?_
  refine bq_callS dL_law_629 ml_L_93 (u_areRows hV h hL hroom) (by decide) (by decide) (Nat.le_of_ble_eq_true rfl) rfl (fun v w' hp => ?_) (fun E w' hp => by obtain ⟨q, -⟩ := hp; cases q)
  obtain ⟨q, y, r, rfl⟩ := hp
  cases q
  refine bq_if_eq (tgt := 650) dL_law_632 (by decide) (fun z9_ => absurd z9_ (show ¬ nI 1 = 0 by decide)) (fun c_632 => ?_)
  refine bq_aload_n (i := 1) dL_law_635 rfl ?_
  refine bq_aload_n (i := 2) dL_law_636 rfl ?_
  refine bq_aload_n (i := 3) dL_law_637 rfl ?_
  refine bq_aload (i := 4) dL_law_638 rfl ?_
  refine bq_aload (i := 5) dL_law_640 rfl ?_
  refine bq_iload (i := 8) dL_law_642 rfl ?_
  refine bq_callS dL_law_644 ml_L_97 (u_areTimes hV (h.u r) (hL.u r) hroom) (by decide) (by decide) (Nat.le_of_ble_eq_true rfl) rfl (fun v w' hp => ?_) (fun E w' hp => by obtain ⟨q, -⟩ := hp; cases q)
  obtain ⟨q, y', r', rfl⟩ := hp
  cases q
  refine bq_if_ne (tgt := 652) dL_law_647 (by decide) (fun c_647 => ?_) (fun z9_ => absurd z9_ (show ¬ nI 1 = 0 by decide))
  refine bq_lvs (lv' := [(0, .ref (bp_sb G)), (1, .ref (bt_ad α 5 0)), (2, .ref (bt_ad α 8 35)), (3, .ref (bt_ad α 8 36)), (4, .ref (bt_ad α 8 37)), (5, .ref (bt_ad α 8 38)), (6, .ref (bt_ad α 8 39)), (7, .int (nI (b_nm σ))), (8, .int (nI (b_nj σ))), (9, .int (nI t))]) ⟨rfl, rfl, rfl, rfl, rfl, rfl, rfl, rfl, rfl, rfl, trivial⟩ ?_
  exact kk y' (r.trans r')
set_option maxRecDepth 100000 in
set_option maxHeartbeats 1000000 in
theorem u_loop (hn31 : bp_sL G < 2 ^ 31) : ∀ (n t : Nat) (α : bt_A) (σ x : bt_X), t + n = 56 → z_V α σ → v_Inv σ x → u_L σ x → bt_us α + 110 * (n + 1) ≤ bp_max →
    bq_W G mL_law 13 45 [(0, .ref (bp_sb G)), (1, .ref (bt_ad α 5 0)), (2, .ref (bt_ad α 8 35)), (3, .ref (bt_ad α 8 36)), (4, .ref (bt_ad α 8 37)), (5, .ref (bt_ad α 8 38)), (6, .ref (bt_ad α 8 39)), (7, .int (nI (b_nm σ))), (8, .int (nI (b_nj σ))), (9, .int (nI t))] [] (bt α σ x) (fun o _ => o = .inl (some (.int (nI 1)))) := by
  intro n
  induction n with
  | zero =>
    intro t α σ x ht hV h hL hroom
    refine bq_iload (i := 9) dL_law_45 rfl ?_
    refine bq_bipush (v := (nI 56)) dL_law_47 (by decide) ?_
    refine bq_icmp_ge (tgt := 658) dL_law_49 (by decide) (fun c_49 => ?_) (fun z9_ => absurd (nI_le (by omega) (by omega)) z9_)
    refine bq_iconst (v := (nI 1)) dL_law_658 (by decide) ?_
    exact bq_iret dL_law_659 rfl (by first | rfl | decide) rfl
  | succ n ih =>
    intro t α σ x ht hV h hL hroom
    have h8 := u_nj8 h
    have h4 := u_nm4 h
    have fin : u_TL G (fun o _ => o = .inl (some (.int (nI 1)))) t α := fun α' σ' x' hV' h' hL' hu => u_tail hV' h' hL' (by omega) (fun y r => by
      refine bq_iinc dL_law_652 rfl (by decide) (by first | exact bp_inc _ | rfl) ?_
      refine bq_goto (tgt := 45) dL_law_655 (by decide) ?_
      refine bq_lvs (lv' := [(0, .ref (bp_sb G)), (1, .ref (bt_ad α' 5 0)), (2, .ref (bt_ad α' 8 35)), (3, .ref (bt_ad α' 8 36)), (4, .ref (bt_ad α' 8 37)), (5, .ref (bt_ad α' 8 38)), (6, .ref (bt_ad α' 8 39)), (7, .int (nI (b_nm σ'))), (8, .int (nI (b_nj σ'))), (9, .int (nI (t + 1)))]) ⟨rfl, rfl, rfl, rfl, rfl, rfl, rfl, rfl, rfl, rfl, trivial⟩ ?_
      exact ih (t + 1) α' σ' y (by omega) hV' (h'.u r) (hL'.u r) (by omega))
    refine bq_iload (i := 9) dL_law_45 rfl ?_
    refine bq_bipush (v := (nI 56)) dL_law_47 (by decide) ?_
    refine bq_icmp_ge (tgt := 658) dL_law_49 (by decide) (fun z9_ => absurd z9_ (nI_ge (by omega) (by omega))) (fun c_49 => ?_)
    refine bq_aload_n (i := 0) dL_law_52 rfl ?_
    refine bq_iconst (v := (nI 2)) dL_law_53 (by decide) ?_
    refine bq_iload (i := 9) dL_law_54 rfl ?_
    refine bq_imul dL_law_56 ?_
    rw [pk_mul]
    refine bq_callSp dL_law_57 ml_L_53 (u_cell (k := 2 * t) hn31 (by omega)) (by decide) (by decide) (Nat.le_of_ble_eq_true rfl) rfl (fun v9 w9 hp => ?_)
    obtain ⟨⟨v, e9⟩, rfl⟩ := hp
    subst e9
    refine bq_istore (i := 10) dL_law_60 (by decide) ?_
    refine bq_aload_n (i := 0) dL_law_62 rfl ?_
    refine bq_iconst (v := (nI 2)) dL_law_63 (by decide) ?_
    refine bq_iload (i := 9) dL_law_64 rfl ?_
    refine bq_imul dL_law_66 ?_
    rw [pk_mul]
    refine bq_iconst (v := (nI 1)) dL_law_67 (by decide) ?_
    refine bq_iadd dL_law_68 ?_
    rw [nI_add]
    refine bq_callSp dL_law_69 ml_L_53 (u_cell (k := 2 * t + 1) hn31 (by omega)) (by decide) (by decide) (Nat.le_of_ble_eq_true rfl) rfl (fun v9 w9 hp => ?_)
    obtain ⟨⟨w, e9⟩, rfl⟩ := hp
    subst e9
    refine bq_istore (i := 11) dL_law_72 (by decide) ?_
    refine bq_iload (i := 10) dL_law_74 rfl ?_
    refine bq_bipush (v := (nI 14)) dL_law_76 (by decide) ?_
    refine bq_callSr dL_law_78 ml_L_57 (u_lowx (n := 14) (by omega) (by omega)) (by decide) (by decide) (Nat.le_of_ble_eq_true rfl) rfl ?_
    show bq_W _ _ _ _ _ (.int (nI (u_lw _ 14)) :: _) _ _
    obtain ⟨q, eq, hq⟩ := u_lwE _ 14 (by omega)
    rw [eq]
    refine bq_istore (i := 12) dL_law_81 (by decide) ?_
    refine bq_iconst (v := (nI 1)) dL_law_83 (by decide) ?_
    refine bq_istore (i := 13) dL_law_84 (by decide) ?_
    refine bq_lvs (lv' := [(0, .ref (bp_sb G)), (1, .ref (bt_ad α 5 0)), (2, .ref (bt_ad α 8 35)), (3, .ref (bt_ad α 8 36)), (4, .ref (bt_ad α 8 37)), (5, .ref (bt_ad α 8 38)), (6, .ref (bt_ad α 8 39)), (7, .int (nI (b_nm σ))), (8, .int (nI (b_nj σ))), (9, .int (nI t)), (11, .int (w)), (12, .int (nI q)), (13, .int (nI 1))]) ⟨rfl, rfl, rfl, rfl, rfl, rfl, rfl, rfl, rfl, rfl, rfl, rfl, rfl, trivial⟩ ?_
    have k184 : 2 ≤ b_nm σ → 2 ≤ b_nj σ → bq_W G mL_law 13 184 [(0, .ref (bp_sb G)), (1, .ref (bt_ad α 5 0)), (2, .ref (bt_ad α 8 35)), (3, .ref (bt_ad α 8 36)), (4, .ref (bt_ad α 8 37)), (5, .ref (bt_ad α 8 38)), (6, .ref (bt_ad α 8 39)), (7, .int (nI (b_nm σ))), (8, .int (nI (b_nj σ))), (9, .int (nI t)), (11, .int (w)), (12, .int (nI q)), (13, .int (nI 1))] [] (bt α σ x) (fun o _ => o = .inl (some (.int (nI 1)))) := fun hm2 hj2 => by
      by_cases c6 : q < 6
      · refine bq_iload (i := 12) dL_law_184 rfl ?_
        refine bq_bipush (v := (nI 6)) dL_law_186 (by decide) ?_
        refine bq_icmp_ge (tgt := 325) dL_law_188 (by decide) (fun z9_ => absurd z9_ (nI_ge c6 (by omega))) (fun c_188 => ?_)
        refine bq_lvs (lv' := [(0, .ref (bp_sb G)), (1, .ref (bt_ad α 5 0)), (2, .ref (bt_ad α 8 35)), (3, .ref (bt_ad α 8 36)), (4, .ref (bt_ad α 8 37)), (5, .ref (bt_ad α 8 38)), (6, .ref (bt_ad α 8 39)), (7, .int (nI (b_nm σ))), (8, .int (nI (b_nj σ))), (9, .int (nI t)), (11, .int (w)), (13, .int (nI 1))]) ⟨rfl, rfl, rfl, rfl, rfl, rfl, rfl, rfl, rfl, rfl, rfl, rfl, trivial⟩ ?_
        exact u_b3 hV h hL (by omega) fin hm2 hj2
      · by_cases c10 : q < 10
        · refine bq_iload (i := 12) dL_law_184 rfl ?_
          refine bq_bipush (v := (nI 6)) dL_law_186 (by decide) ?_
          refine bq_icmp_ge (tgt := 325) dL_law_188 (by decide) (fun c_188 => ?_) (fun z9_ => absurd (nI_le (by omega) (by omega)) z9_)
          refine bq_iload (i := 12) dL_law_325 rfl ?_
          refine bq_bipush (v := (nI 10)) dL_law_327 (by decide) ?_
          refine bq_icmp_ge (tgt := 419) dL_law_329 (by decide) (fun z9_ => absurd z9_ (nI_ge c10 (by omega))) (fun c_329 => ?_)
          refine bq_lvs (lv' := [(0, .ref (bp_sb G)), (1, .ref (bt_ad α 5 0)), (2, .ref (bt_ad α 8 35)), (3, .ref (bt_ad α 8 36)), (4, .ref (bt_ad α 8 37)), (5, .ref (bt_ad α 8 38)), (6, .ref (bt_ad α 8 39)), (7, .int (nI (b_nm σ))), (8, .int (nI (b_nj σ))), (9, .int (nI t)), (11, .int (w)), (13, .int (nI 1))]) ⟨rfl, rfl, rfl, rfl, rfl, rfl, rfl, rfl, rfl, rfl, rfl, rfl, trivial⟩ ?_
          exact u_b4 hV h hL (by omega) fin hj2
        · rcases (show q = 10 ∨ q = 11 ∨ q = 12 ∨ q = 13 by omega) with rfl | rfl | rfl | rfl
          · refine bq_iload (i := 12) dL_law_184 rfl ?_
            refine bq_bipush (v := (nI 6)) dL_law_186 (by decide) ?_
            refine bq_icmp_ge (tgt := 325) dL_law_188 (by decide) (fun c_188 => ?_) (fun z9_ => absurd (by decide) z9_)
            refine bq_iload (i := 12) dL_law_325 rfl ?_
            refine bq_bipush (v := (nI 10)) dL_law_327 (by decide) ?_
            refine bq_icmp_ge (tgt := 419) dL_law_329 (by decide) (fun c_329 => ?_) (fun z9_ => absurd (by decide) z9_)
            refine bq_iload (i := 12) dL_law_419 rfl ?_
            refine bq_bipush (v := (nI 10)) dL_law_421 (by decide) ?_
            refine bq_icmp_ne (tgt := 458) dL_law_423 (by decide) (fun z9_ => absurd rfl z9_) (fun c_423 => ?_)
            refine bq_lvs (lv' := [(0, .ref (bp_sb G)), (1, .ref (bt_ad α 5 0)), (2, .ref (bt_ad α 8 35)), (3, .ref (bt_ad α 8 36)), (4, .ref (bt_ad α 8 37)), (5, .ref (bt_ad α 8 38)), (6, .ref (bt_ad α 8 39)), (7, .int (nI (b_nm σ))), (8, .int (nI (b_nj σ))), (9, .int (nI t)), (11, .int (w)), (13, .int (nI 1))]) ⟨rfl, rfl, rfl, rfl, rfl, rfl, rfl, rfl, rfl, rfl, rfl, rfl, trivial⟩ ?_
            exact u_b5 hV h hL (by omega) fin
          · refine bq_iload (i := 12) dL_law_184 rfl ?_
            refine bq_bipush (v := (nI 6)) dL_law_186 (by decide) ?_
            refine bq_icmp_ge (tgt := 325) dL_law_188 (by decide) (fun c_188 => ?_) (fun z9_ => absurd (by decide) z9_)
            refine bq_iload (i := 12) dL_law_325 rfl ?_
            refine bq_bipush (v := (nI 10)) dL_law_327 (by decide) ?_
            refine bq_icmp_ge (tgt := 419) dL_law_329 (by decide) (fun c_329 => ?_) (fun z9_ => absurd (by decide) z9_)
            refine bq_iload (i := 12) dL_law_419 rfl ?_
            refine bq_bipush (v := (nI 10)) dL_law_421 (by decide) ?_
            refine bq_icmp_ne (tgt := 458) dL_law_423 (by decide) (fun c_423 => ?_) (fun z9_ => absurd z9_ (by decide))
            refine bq_iload (i := 12) dL_law_458 rfl ?_
            refine bq_bipush (v := (nI 11)) dL_law_460 (by decide) ?_
            refine bq_icmp_ne (tgt := 521) dL_law_462 (by decide) (fun z9_ => absurd rfl z9_) (fun c_462 => ?_)
            refine bq_lvs (lv' := [(0, .ref (bp_sb G)), (1, .ref (bt_ad α 5 0)), (2, .ref (bt_ad α 8 35)), (3, .ref (bt_ad α 8 36)), (4, .ref (bt_ad α 8 37)), (5, .ref (bt_ad α 8 38)), (6, .ref (bt_ad α 8 39)), (7, .int (nI (b_nm σ))), (8, .int (nI (b_nj σ))), (9, .int (nI t)), (11, .int (w)), (13, .int (nI 1))]) ⟨rfl, rfl, rfl, rfl, rfl, rfl, rfl, rfl, rfl, rfl, rfl, rfl, trivial⟩ ?_
            exact u_b6 hV h hL (by omega) fin hm2
          · refine bq_iload (i := 12) dL_law_184 rfl ?_
            refine bq_bipush (v := (nI 6)) dL_law_186 (by decide) ?_
            refine bq_icmp_ge (tgt := 325) dL_law_188 (by decide) (fun c_188 => ?_) (fun z9_ => absurd (by decide) z9_)
            refine bq_iload (i := 12) dL_law_325 rfl ?_
            refine bq_bipush (v := (nI 10)) dL_law_327 (by decide) ?_
            refine bq_icmp_ge (tgt := 419) dL_law_329 (by decide) (fun c_329 => ?_) (fun z9_ => absurd (by decide) z9_)
            refine bq_iload (i := 12) dL_law_419 rfl ?_
            refine bq_bipush (v := (nI 10)) dL_law_421 (by decide) ?_
            refine bq_icmp_ne (tgt := 458) dL_law_423 (by decide) (fun c_423 => ?_) (fun z9_ => absurd z9_ (by decide))
            refine bq_iload (i := 12) dL_law_458 rfl ?_
            refine bq_bipush (v := (nI 11)) dL_law_460 (by decide) ?_
            refine bq_icmp_ne (tgt := 521) dL_law_462 (by decide) (fun c_462 => ?_) (fun z9_ => absurd z9_ (by decide))
            refine bq_iload (i := 12) dL_law_521 rfl ?_
            refine bq_bipush (v := (nI 12)) dL_law_523 (by decide) ?_
            refine bq_icmp_ne (tgt := 543) dL_law_525 (by decide) (fun z9_ => absurd rfl z9_) (fun c_525 => ?_)
            refine bq_lvs (lv' := [(0, .ref (bp_sb G)), (1, .ref (bt_ad α 5 0)), (2, .ref (bt_ad α 8 35)), (3, .ref (bt_ad α 8 36)), (4, .ref (bt_ad α 8 37)), (5, .ref (bt_ad α 8 38)), (6, .ref (bt_ad α 8 39)), (7, .int (nI (b_nm σ))), (8, .int (nI (b_nj σ))), (9, .int (nI t)), (11, .int (w)), (13, .int (nI 1))]) ⟨rfl, rfl, rfl, rfl, rfl, rfl, rfl, rfl, rfl, rfl, rfl, rfl, trivial⟩ ?_
            exact u_b7 hV h hL (by omega) fin hm2
          · refine bq_iload (i := 12) dL_law_184 rfl ?_
            refine bq_bipush (v := (nI 6)) dL_law_186 (by decide) ?_
            refine bq_icmp_ge (tgt := 325) dL_law_188 (by decide) (fun c_188 => ?_) (fun z9_ => absurd (by decide) z9_)
            refine bq_iload (i := 12) dL_law_325 rfl ?_
            refine bq_bipush (v := (nI 10)) dL_law_327 (by decide) ?_
            refine bq_icmp_ge (tgt := 419) dL_law_329 (by decide) (fun c_329 => ?_) (fun z9_ => absurd (by decide) z9_)
            refine bq_iload (i := 12) dL_law_419 rfl ?_
            refine bq_bipush (v := (nI 10)) dL_law_421 (by decide) ?_
            refine bq_icmp_ne (tgt := 458) dL_law_423 (by decide) (fun c_423 => ?_) (fun z9_ => absurd z9_ (by decide))
            refine bq_iload (i := 12) dL_law_458 rfl ?_
            refine bq_bipush (v := (nI 11)) dL_law_460 (by decide) ?_
            refine bq_icmp_ne (tgt := 521) dL_law_462 (by decide) (fun c_462 => ?_) (fun z9_ => absurd z9_ (by decide))
            refine bq_iload (i := 12) dL_law_521 rfl ?_
            refine bq_bipush (v := (nI 12)) dL_law_523 (by decide) ?_
            refine bq_icmp_ne (tgt := 543) dL_law_525 (by decide) (fun c_525 => ?_) (fun z9_ => absurd z9_ (by decide))
            refine bq_lvs (lv' := [(0, .ref (bp_sb G)), (1, .ref (bt_ad α 5 0)), (2, .ref (bt_ad α 8 35)), (3, .ref (bt_ad α 8 36)), (4, .ref (bt_ad α 8 37)), (5, .ref (bt_ad α 8 38)), (6, .ref (bt_ad α 8 39)), (7, .int (nI (b_nm σ))), (8, .int (nI (b_nj σ))), (9, .int (nI t)), (11, .int (w)), (13, .int (nI 1))]) ⟨rfl, rfl, rfl, rfl, rfl, rfl, rfl, rfl, rfl, rfl, rfl, rfl, trivial⟩ ?_
            exact u_b8 hV h hL (by omega) fin hm2
    have k125 : 2 ≤ b_nm σ → bq_W G mL_law 13 125 [(0, .ref (bp_sb G)), (1, .ref (bt_ad α 5 0)), (2, .ref (bt_ad α 8 35)), (3, .ref (bt_ad α 8 36)), (4, .ref (bt_ad α 8 37)), (5, .ref (bt_ad α 8 38)), (6, .ref (bt_ad α 8 39)), (7, .int (nI (b_nm σ))), (8, .int (nI (b_nj σ))), (9, .int (nI t)), (11, .int (w)), (12, .int (nI q)), (13, .int (nI 1))] [] (bt α σ x) (fun o _ => o = .inl (some (.int (nI 1)))) := fun hm2 => by
      by_cases c2 : b_nj σ < 2
      · refine bq_iload (i := 8) dL_law_125 rfl ?_
        refine bq_iconst (v := (nI 2)) dL_law_127 (by decide) ?_
        refine bq_icmp_lt (tgt := 144) dL_law_128 (by decide) (fun c_128 => ?_) (fun z9_ => absurd (nI_lt c2 (by omega)) z9_)
        refine bq_lvs (lv' := [(0, .ref (bp_sb G)), (1, .ref (bt_ad α 5 0)), (2, .ref (bt_ad α 8 35)), (3, .ref (bt_ad α 8 36)), (4, .ref (bt_ad α 8 37)), (5, .ref (bt_ad α 8 38)), (6, .ref (bt_ad α 8 39)), (7, .int (nI (b_nm σ))), (8, .int (nI (b_nj σ))), (9, .int (nI t)), (11, .int (w))]) ⟨rfl, rfl, rfl, rfl, rfl, rfl, rfl, rfl, rfl, rfl, rfl, trivial⟩ ?_
        exact u_b2 hV h hL (by omega) fin (by omega)
      · by_cases cq : q = 1
        · by_cases c8 : b_nj σ < 8
          · refine bq_iload (i := 8) dL_law_125 rfl ?_
            refine bq_iconst (v := (nI 2)) dL_law_127 (by decide) ?_
            refine bq_icmp_lt (tgt := 144) dL_law_128 (by decide) (fun z9_ => absurd z9_ (nI_nlt (Nat.le_of_not_lt c2) (by omega))) (fun c_128 => ?_)
            refine bq_iload (i := 12) dL_law_131 rfl ?_
            refine bq_iconst (v := (nI 1)) dL_law_133 (by decide) ?_
            refine bq_icmp_ne (tgt := 184) dL_law_134 (by decide) (fun z9_ => absurd (congrArg nI cq) z9_) (fun c_134 => ?_)
            refine bq_iload (i := 8) dL_law_137 rfl ?_
            refine bq_bipush (v := (nI 8)) dL_law_139 (by decide) ?_
            refine bq_icmp_ge (tgt := 184) dL_law_141 (by decide) (fun z9_ => absurd z9_ (nI_ge c8 (by omega))) (fun c_141 => ?_)
            refine bq_lvs (lv' := [(0, .ref (bp_sb G)), (1, .ref (bt_ad α 5 0)), (2, .ref (bt_ad α 8 35)), (3, .ref (bt_ad α 8 36)), (4, .ref (bt_ad α 8 37)), (5, .ref (bt_ad α 8 38)), (6, .ref (bt_ad α 8 39)), (7, .int (nI (b_nm σ))), (8, .int (nI (b_nj σ))), (9, .int (nI t)), (11, .int (w))]) ⟨rfl, rfl, rfl, rfl, rfl, rfl, rfl, rfl, rfl, rfl, rfl, trivial⟩ ?_
            exact u_b2 hV h hL (by omega) fin (by omega)
          · refine bq_iload (i := 8) dL_law_125 rfl ?_
            refine bq_iconst (v := (nI 2)) dL_law_127 (by decide) ?_
            refine bq_icmp_lt (tgt := 144) dL_law_128 (by decide) (fun z9_ => absurd z9_ (nI_nlt (Nat.le_of_not_lt c2) (by omega))) (fun c_128 => ?_)
            refine bq_iload (i := 12) dL_law_131 rfl ?_
            refine bq_iconst (v := (nI 1)) dL_law_133 (by decide) ?_
            refine bq_icmp_ne (tgt := 184) dL_law_134 (by decide) (fun z9_ => absurd (congrArg nI cq) z9_) (fun c_134 => ?_)
            refine bq_iload (i := 8) dL_law_137 rfl ?_
            refine bq_bipush (v := (nI 8)) dL_law_139 (by decide) ?_
            refine bq_icmp_ge (tgt := 184) dL_law_141 (by decide) (fun c_141 => ?_) (fun z9_ => absurd (nI_le (Nat.le_of_not_lt c8) (by omega)) z9_)
            refine bq_lvs (lv' := [(0, .ref (bp_sb G)), (1, .ref (bt_ad α 5 0)), (2, .ref (bt_ad α 8 35)), (3, .ref (bt_ad α 8 36)), (4, .ref (bt_ad α 8 37)), (5, .ref (bt_ad α 8 38)), (6, .ref (bt_ad α 8 39)), (7, .int (nI (b_nm σ))), (8, .int (nI (b_nj σ))), (9, .int (nI t)), (11, .int (w)), (12, .int (nI q)), (13, .int (nI 1))]) ⟨rfl, rfl, rfl, rfl, rfl, rfl, rfl, rfl, rfl, rfl, rfl, rfl, rfl, trivial⟩ ?_
            exact k184 hm2 (by omega)
        · refine bq_iload (i := 8) dL_law_125 rfl ?_
          refine bq_iconst (v := (nI 2)) dL_law_127 (by decide) ?_
          refine bq_icmp_lt (tgt := 144) dL_law_128 (by decide) (fun z9_ => absurd z9_ (nI_nlt (Nat.le_of_not_lt c2) (by omega))) (fun c_128 => ?_)
          refine bq_iload (i := 12) dL_law_131 rfl ?_
          refine bq_iconst (v := (nI 1)) dL_law_133 (by decide) ?_
          refine bq_icmp_ne (tgt := 184) dL_law_134 (by decide) (fun c_134 => ?_) (fun z9_ => absurd z9_ (fun z => cq ((nI_eq (by omega) (by omega)).mp z)))
          refine bq_lvs (lv' := [(0, .ref (bp_sb G)), (1, .ref (bt_ad α 5 0)), (2, .ref (bt_ad α 8 35)), (3, .ref (bt_ad α 8 36)), (4, .ref (bt_ad α 8 37)), (5, .ref (bt_ad α 8 38)), (6, .ref (bt_ad α 8 39)), (7, .int (nI (b_nm σ))), (8, .int (nI (b_nj σ))), (9, .int (nI t)), (11, .int (w)), (12, .int (nI q)), (13, .int (nI 1))]) ⟨rfl, rfl, rfl, rfl, rfl, rfl, rfl, rfl, rfl, rfl, rfl, rfl, rfl, trivial⟩ ?_
          exact k184 hm2 (by omega)
    by_cases c2 : b_nm σ < 2
    · refine bq_iload (i := 7) dL_law_86 rfl ?_
      refine bq_iconst (v := (nI 2)) dL_law_88 (by decide) ?_
      refine bq_icmp_lt (tgt := 103) dL_law_89 (by decide) (fun c_89 => ?_) (fun z9_ => absurd (nI_lt c2 (by omega)) z9_)
      refine bq_lvs (lv' := [(0, .ref (bp_sb G)), (1, .ref (bt_ad α 5 0)), (2, .ref (bt_ad α 8 35)), (3, .ref (bt_ad α 8 36)), (4, .ref (bt_ad α 8 37)), (5, .ref (bt_ad α 8 38)), (6, .ref (bt_ad α 8 39)), (7, .int (nI (b_nm σ))), (8, .int (nI (b_nj σ))), (9, .int (nI t))]) ⟨rfl, rfl, rfl, rfl, rfl, rfl, rfl, rfl, rfl, rfl, trivial⟩ ?_
      exact u_b1 hV h hL (by omega) fin (by omega)
    · by_cases cq : q = 0
      · by_cases c4 : b_nm σ < 4
        · refine bq_iload (i := 7) dL_law_86 rfl ?_
          refine bq_iconst (v := (nI 2)) dL_law_88 (by decide) ?_
          refine bq_icmp_lt (tgt := 103) dL_law_89 (by decide) (fun z9_ => absurd z9_ (nI_nlt (Nat.le_of_not_lt c2) (by omega))) (fun c_89 => ?_)
          refine bq_iload (i := 12) dL_law_92 rfl ?_
          refine bq_if_ne (tgt := 125) dL_law_94 (by decide) (fun z9_ => absurd (show nI q = 0 by rw [cq]; rfl) z9_) (fun c_94 => ?_)
          refine bq_iload (i := 7) dL_law_97 rfl ?_
          refine bq_iconst (v := (nI 4)) dL_law_99 (by decide) ?_
          refine bq_icmp_ge (tgt := 125) dL_law_100 (by decide) (fun z9_ => absurd z9_ (nI_ge c4 (by omega))) (fun c_100 => ?_)
          refine bq_lvs (lv' := [(0, .ref (bp_sb G)), (1, .ref (bt_ad α 5 0)), (2, .ref (bt_ad α 8 35)), (3, .ref (bt_ad α 8 36)), (4, .ref (bt_ad α 8 37)), (5, .ref (bt_ad α 8 38)), (6, .ref (bt_ad α 8 39)), (7, .int (nI (b_nm σ))), (8, .int (nI (b_nj σ))), (9, .int (nI t))]) ⟨rfl, rfl, rfl, rfl, rfl, rfl, rfl, rfl, rfl, rfl, trivial⟩ ?_
          exact u_b1 hV h hL (by omega) fin (by omega)
        · refine bq_iload (i := 7) dL_law_86 rfl ?_
          refine bq_iconst (v := (nI 2)) dL_law_88 (by decide) ?_
          refine bq_icmp_lt (tgt := 103) dL_law_89 (by decide) (fun z9_ => absurd z9_ (nI_nlt (Nat.le_of_not_lt c2) (by omega))) (fun c_89 => ?_)
          refine bq_iload (i := 12) dL_law_92 rfl ?_
          refine bq_if_ne (tgt := 125) dL_law_94 (by decide) (fun z9_ => absurd (show nI q = 0 by rw [cq]; rfl) z9_) (fun c_94 => ?_)
          refine bq_iload (i := 7) dL_law_97 rfl ?_
          refine bq_iconst (v := (nI 4)) dL_law_99 (by decide) ?_
          refine bq_icmp_ge (tgt := 125) dL_law_100 (by decide) (fun c_100 => ?_) (fun z9_ => absurd (nI_le (Nat.le_of_not_lt c4) (by omega)) z9_)
          refine bq_lvs (lv' := [(0, .ref (bp_sb G)), (1, .ref (bt_ad α 5 0)), (2, .ref (bt_ad α 8 35)), (3, .ref (bt_ad α 8 36)), (4, .ref (bt_ad α 8 37)), (5, .ref (bt_ad α 8 38)), (6, .ref (bt_ad α 8 39)), (7, .int (nI (b_nm σ))), (8, .int (nI (b_nj σ))), (9, .int (nI t)), (11, .int (w)), (12, .int (nI q)), (13, .int (nI 1))]) ⟨rfl, rfl, rfl, rfl, rfl, rfl, rfl, rfl, rfl, rfl, rfl, rfl, rfl, trivial⟩ ?_
          exact k125 (by omega)
      · refine bq_iload (i := 7) dL_law_86 rfl ?_
        refine bq_iconst (v := (nI 2)) dL_law_88 (by decide) ?_
        refine bq_icmp_lt (tgt := 103) dL_law_89 (by decide) (fun z9_ => absurd z9_ (nI_nlt (Nat.le_of_not_lt c2) (by omega))) (fun c_89 => ?_)
        refine bq_iload (i := 12) dL_law_92 rfl ?_
        refine bq_if_ne (tgt := 125) dL_law_94 (by decide) (fun c_94 => ?_) (fun z9_ => absurd z9_ (nI_ne0 (by omega) (by omega)))
        refine bq_lvs (lv' := [(0, .ref (bp_sb G)), (1, .ref (bt_ad α 5 0)), (2, .ref (bt_ad α 8 35)), (3, .ref (bt_ad α 8 36)), (4, .ref (bt_ad α 8 37)), (5, .ref (bt_ad α 8 38)), (6, .ref (bt_ad α 8 39)), (7, .int (nI (b_nm σ))), (8, .int (nI (b_nj σ))), (9, .int (nI t)), (11, .int (w)), (12, .int (nI q)), (13, .int (nI 1))]) ⟨rfl, rfl, rfl, rfl, rfl, rfl, rfl, rfl, rfl, rfl, rfl, rfl, rfl, trivial⟩ ?_
        exact k125 (by omega)
end ULP
