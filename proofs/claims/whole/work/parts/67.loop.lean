/-! ===== the law: the loop ===== -/
section VLP
variable {G : bp_X} {α : bt_A} {σ x : bt_X}
theorem l_and (s : Int32) : ∃ t, t < 32 ∧ s &&& nI 31 = nI t := by
  refine ⟨(s &&& nI 31).toBitVec.toNat, ?_, ?_⟩
  · rw [Int32.toBitVec_and, BitVec.toNat_and]
    exact Nat.lt_of_le_of_lt Nat.and_le_right (show 31 < 32 by decide)
  · apply Int32.toBitVec_inj.mp
    show _ = BitVec.ofNat 32 _
    rw [BitVec.ofNat_toNat]
    simp
theorem l_gt {L i : Nat} (hL : L < 2 ^ 30) (hi : i < 2 ^ 30) : nI L - nI 6 < nI i ↔ L < i + 6 := by
  rw [Int32.lt_iff_toInt_lt, pk_sub_toInt hL (by decide), nI_toInt (by omega)]
  omega
set_option maxRecDepth 100000 in
set_option maxHeartbeats 1000000 in
theorem l_loop (hn : bp_sL G ≤ 3072) : ∀ (n i : Nat) (α : bt_A) (σ x : bt_X), i + 6 * n ≤ bp_sL G → bp_sL G < i + 6 * n + 6 → z_V α σ → v_Inv σ x → bt_us α + 110 * (n + 1) ≤ bp_max → bq_W G mL_law 13 23 [(0, .ref (bp_sb G)), (1, .ref (bt_ad α 5 0)), (2, .ref (bt_ad α 6 0)), (3, .ref (bt_ad α 8 5)), (4, .int (nI i))] [] (bt α σ x) (fun o _ => o = .inl (some (.int (nI 1)))) := by
  intro n
  induction n with
  | zero =>
    intro i α σ x h1 h2 hV h hroom
    refine bq_iload (i := 4) dL_law_23 rfl ?_
    refine bq_aload_n (i := 0) dL_law_25 rfl ?_
    refine bq_slen dL_law_26 ?_
    refine bq_bipush (v := nI 6) dL_law_27 (by decide) ?_
    refine bq_isub dL_law_29 ?_
    refine bq_icmp_gt (tgt := 1459) dL_law_30 (by decide) (fun _ => ?_) (fun c => absurd ((l_gt (by omega) (by omega)).mpr (by omega)) c)
    refine bq_iconst (v := nI 1) dL_law_1459 (by decide) ?_
    exact bq_iret dL_law_1460 rfl (by first | rfl | decide) rfl
  | succ n ih =>
    intro i α σ x h1 h2 hV h hroom
    have fin : ∀ α' σ' x', z_V α' σ' → v_Inv σ' x' → bt_us α' ≤ bt_us α + 110 → bq_W G mL_law 13 1453 [(0, .ref (bp_sb G)), (1, .ref (bt_ad α' 5 0)), (2, .ref (bt_ad α' 6 0)), (3, .ref (bt_ad α' 8 5)), (4, .int (nI i))] [] (bt α' σ' x') (fun o _ => o = .inl (some (.int (nI 1)))) := fun α' σ' x' hV' h' hu => by
      refine bq_iinc (i := 4) (v := nI (i + 6)) dL_law_1453 rfl (by decide) (by rw [← nI_add]; rfl) ?_
      refine bq_goto (tgt := 23) dL_law_1456 (by decide) ?_
      refine bq_lvs (lv' := [(0, .ref (bp_sb G)), (1, .ref (bt_ad α' 5 0)), (2, .ref (bt_ad α' 6 0)), (3, .ref (bt_ad α' 8 5)), (4, .int (nI (i + 6)))]) ⟨rfl, rfl, rfl, rfl, rfl, trivial⟩ ?_
      exact ih (i + 6) α' σ' x' (by omega) (by omega) hV' h' (by omega)
    refine bq_iload (i := 4) dL_law_23 rfl ?_
    refine bq_aload_n (i := 0) dL_law_25 rfl ?_
    refine bq_slen dL_law_26 ?_
    refine bq_bipush (v := nI 6) dL_law_27 (by decide) ?_
    refine bq_isub dL_law_29 ?_
    refine bq_icmp_gt (tgt := 1459) dL_law_30 (by decide) (fun c => absurd ((l_gt (by omega) (by omega)).mp c) (by omega)) (fun _ => ?_)
    refine bq_aload_n (i := 0) dL_law_33 rfl ?_
    refine bq_iload (i := 4) dL_law_34 rfl ?_
    refine bq_sld (j := i) dL_law_36 rfl (by omega) (by omega) ?_
    refine bq_bipush (v := nI 31) dL_law_37 (by decide) ?_
    refine bq_iand dL_law_39 ?_
    obtain ⟨t, ht, e⟩ := l_and (bp_xs G i)
    rw [e]
    have hL : i + 6 ≤ bp_sL G := by omega
    have hn2 : bp_sL G < 2 ^ 31 := by omega
    have hr : bt_us α + 110 ≤ bp_max := by omega
    by_cases c : 22 ≤ t
    · refine bq_tableOut (tgt := 1453) dL_law_40 (Or.inr (by rw [nI_toInt (by omega)]; omega)) (by decide) ?_
      exact fin α σ x hV h (Nat.le_add_right _ _)
    · rcases (show t = 0 ∨ t = 1 ∨ t = 2 ∨ t = 3 ∨ t = 4 ∨ t = 5 ∨ t = 6 ∨ t = 7 ∨ t = 8 ∨ t = 9 ∨ t = 10 ∨ t = 11 ∨ t = 12 ∨ t = 13 ∨ t = 14 ∨ t = 15 ∨ t = 16 ∨ t = 17 ∨ t = 18 ∨ t = 19 ∨ t = 20 ∨ t = 21 by omega) with rfl | rfl | rfl | rfl | rfl | rfl | rfl | rfl | rfl | rfl | rfl | rfl | rfl | rfl | rfl | rfl | rfl | rfl | rfl | rfl | rfl | rfl
      · refine bq_tableIn (off := 104) (tgt := 144) dL_law_40 (by decide) (by decide) (by decide) (by decide) ?_
        exact l_0 hL hn2 hV h hr fin
      · refine bq_tableIn (off := 148) (tgt := 188) dL_law_40 (by decide) (by decide) (by decide) (by decide) ?_
        exact l_1 hL hn2 hV h hr fin
      · refine bq_tableIn (off := 216) (tgt := 256) dL_law_40 (by decide) (by decide) (by decide) (by decide) ?_
        exact l_2 hL hn2 hV h hr fin
      · refine bq_tableIn (off := 296) (tgt := 336) dL_law_40 (by decide) (by decide) (by decide) (by decide) ?_
        exact l_3 hL hn2 hV h hr fin
      · refine bq_tableIn (off := 359) (tgt := 399) dL_law_40 (by decide) (by decide) (by decide) (by decide) ?_
        exact l_4 hL hn2 hV h hr fin
      · refine bq_tableIn (off := 415) (tgt := 455) dL_law_40 (by decide) (by decide) (by decide) (by decide) ?_
        exact l_5 hL hn2 hV h hr fin
      · refine bq_tableIn (off := 519) (tgt := 559) dL_law_40 (by decide) (by decide) (by decide) (by decide) ?_
        exact l_6 hL hn2 hV h hr fin
      · refine bq_tableIn (off := 599) (tgt := 639) dL_law_40 (by decide) (by decide) (by decide) (by decide) ?_
        exact l_7 hL hn2 hV h hr fin
      · refine bq_tableIn (off := 655) (tgt := 695) dL_law_40 (by decide) (by decide) (by decide) (by decide) ?_
        exact l_8 hL hn2 hV h hr fin
      · refine bq_tableIn (off := 711) (tgt := 751) dL_law_40 (by decide) (by decide) (by decide) (by decide) ?_
        exact l_9 hL hn2 hV h hr fin
      · refine bq_tableIn (off := 767) (tgt := 807) dL_law_40 (by decide) (by decide) (by decide) (by decide) ?_
        exact l_10 hL hn2 hV h hr fin
      · refine bq_tableIn (off := 835) (tgt := 875) dL_law_40 (by decide) (by decide) (by decide) (by decide) ?_
        exact l_11 hL hn2 hV h hr fin
      · refine bq_tableIn (off := 891) (tgt := 931) dL_law_40 (by decide) (by decide) (by decide) (by decide) ?_
        exact l_12 hL hn2 hV h hr fin
      · refine bq_tableIn (off := 959) (tgt := 999) dL_law_40 (by decide) (by decide) (by decide) (by decide) ?_
        exact l_13 hL hn2 hV h hr fin
      · refine bq_tableIn (off := 1027) (tgt := 1067) dL_law_40 (by decide) (by decide) (by decide) (by decide) ?_
        exact l_14 hL hn2 hV h hr fin
      · refine bq_tableIn (off := 1095) (tgt := 1135) dL_law_40 (by decide) (by decide) (by decide) (by decide) ?_
        exact l_15 hL hn2 hV h hr fin
      · refine bq_tableIn (off := 1151) (tgt := 1191) dL_law_40 (by decide) (by decide) (by decide) (by decide) ?_
        exact l_16 hL hn2 hV h hr fin
      · refine bq_tableIn (off := 1164) (tgt := 1204) dL_law_40 (by decide) (by decide) (by decide) (by decide) ?_
        exact l_17 hL hn2 hV h hr fin
      · refine bq_tableIn (off := 1232) (tgt := 1272) dL_law_40 (by decide) (by decide) (by decide) (by decide) ?_
        exact l_18 hL hn2 hV h hr fin
      · refine bq_tableIn (off := 1245) (tgt := 1285) dL_law_40 (by decide) (by decide) (by decide) (by decide) ?_
        exact l_19 hL hn2 hV h hr fin
      · refine bq_tableIn (off := 1301) (tgt := 1341) dL_law_40 (by decide) (by decide) (by decide) (by decide) ?_
        exact l_20 hL hn2 hV h hr fin
      · refine bq_tableIn (off := 1357) (tgt := 1397) dL_law_40 (by decide) (by decide) (by decide) (by decide) ?_
        exact l_21 hL hn2 hV h hr fin
end VLP
