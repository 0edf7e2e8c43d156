/-! ===== entries of the pools, by program ===== -/
theorem bp_uw {w : Cond} (i : Nat) (h : lw_tbl[i]? = some w) (hg : bp_good w = true) : w ∈ bp_UW := List.mem_filter.mpr ⟨List.mem_of_getElem? h, hg⟩
theorem bp_cw0 {M : bp_M} (h : bp_t M = []) : bp_cw M = Cond.code (bp_y M) (bp_c M) (bp_n M) (bp_r M) := by unfold bp_cw; rw [if_pos h]
theorem bp_cw1 {M : bp_M} (h : ¬ bp_t M = []) : bp_cw M = Cond.codeWith (bp_y M) (bp_c M) (bp_n M) (bp_r M) (bp_t M) := by unfold bp_cw; rw [if_neg h]
theorem uc_X0 : ∀ w ∈ u_ws RX0 TX0 5, w ∈ bp_UW := by decide +kernel
theorem uc_X1 : ∀ w ∈ u_ws RX1 TX1 7, w ∈ bp_UW := by decide +kernel
theorem uc_X2 : ∀ w ∈ u_ws RX2 TX2 14, w ∈ bp_UW := by decide +kernel
theorem uc_X3 : ∀ w ∈ u_ws RX3 TX3 1, w ∈ bp_UW := by decide +kernel
theorem uc_X4 : ∀ w ∈ u_ws RX4 TX4 6, w ∈ bp_UW := by decide +kernel
theorem uc_X5 : ∀ w ∈ u_ws RX5 TX5 1, w ∈ bp_UW := by decide +kernel
theorem uc_X6 : ∀ w ∈ u_ws RX6 TX6 0, w ∈ bp_UW := by decide +kernel
theorem uc_Jx4a65c : ∀ w ∈ u_ws RJx4a65c TJx4a65c 3, w ∈ bp_UW := by decide +kernel
abbrev mX0_init : bp_M := (RX0, yX0_init, cX0_init, 3, (Option.none : Option ClassFile.FieldType), [])
theorem uw_412 : Cond.code ⟨"Boreplan$Job", "<init>", "(II)V"⟩ prog_2_method_1_code 3 (Option.none : Option ClassFile.FieldType) ∈ bp_UW := bp_uw 412 (by decide +kernel) (by decide +kernel)
theorem cw_X0_init : bp_cw mX0_init ∈ bp_UW := by rw [bp_cw0 rfl]; exact uw_412
abbrev mX0_append : bp_M := (RX0, yX0_append, cX0_append, 8, (Option.some FieldType.int), [])
theorem uw_461 : Cond.code ⟨"Boreplan$Job", "append", "(LBoreplan$Machine;III)I"⟩ prog_2_method_2_code 8 (Option.some FieldType.int) ∈ bp_UW := bp_uw 461 (by decide +kernel) (by decide +kernel)
theorem cw_X0_append : bp_cw mX0_append ∈ bp_UW := by rw [bp_cw0 rfl]; exact uw_461
abbrev mX1_init : bp_M := (RX1, yX1_init, cX1_init, 1, (Option.none : Option ClassFile.FieldType), [])
theorem uw_207 : Cond.code ⟨"Boreplan$Machine", "<init>", "()V"⟩ prog_3_method_1_code 1 (Option.none : Option ClassFile.FieldType) ∈ bp_UW := bp_uw 207 (by decide +kernel) (by decide +kernel)
theorem cw_X1_init : bp_cw mX1_init ∈ bp_UW := by rw [bp_cw0 rfl]; exact uw_207
abbrev mX1_insert : bp_M := (RX1, yX1_insert, cX1_insert, 3, (Option.none : Option ClassFile.FieldType), [])
theorem uw_556 : Cond.code ⟨"Boreplan$Machine", "insert", "(LBoreplan$Operation;I)V"⟩ prog_3_method_2_code 3 (Option.none : Option ClassFile.FieldType) ∈ bp_UW := bp_uw 556 (by decide +kernel) (by decide +kernel)
theorem cw_X1_insert : bp_cw mX1_insert ∈ bp_UW := by rw [bp_cw0 rfl]; exact uw_556
abbrev mX1_takeOut : bp_M := (RX1, yX1_takeOut, cX1_takeOut, 2, (Option.none : Option ClassFile.FieldType), [])
theorem uw_587 : Cond.code ⟨"Boreplan$Machine", "takeOut", "(I)V"⟩ prog_3_method_3_code 2 (Option.none : Option ClassFile.FieldType) ∈ bp_UW := bp_uw 587 (by decide +kernel) (by decide +kernel)
theorem cw_X1_takeOut : bp_cw mX1_takeOut ∈ bp_UW := by rw [bp_cw0 rfl]; exact uw_587
abbrev mX1_takeOutAllOf : bp_M := (RX1, yX1_takeOutAllOf, cX1_takeOutAllOf, 3, (Option.none : Option ClassFile.FieldType), [])
theorem uw_608 : Cond.code ⟨"Boreplan$Machine", "takeOutAllOf", "(LBoreplan$Job;)V"⟩ prog_3_method_4_code 3 (Option.none : Option ClassFile.FieldType) ∈ bp_UW := bp_uw 608 (by decide +kernel) (by decide +kernel)
theorem cw_X1_takeOutAllOf : bp_cw mX1_takeOutAllOf ∈ bp_UW := by rw [bp_cw0 rfl]; exact uw_608
abbrev mX1_link : bp_M := (RX1, yX1_link, cX1_link, 4, (Option.none : Option ClassFile.FieldType), [])
theorem uw_569 : Cond.code ⟨"Boreplan$Machine", "link", "()V"⟩ prog_3_method_6_code 4 (Option.none : Option ClassFile.FieldType) ∈ bp_UW := bp_uw 569 (by decide +kernel) (by decide +kernel)
theorem cw_X1_link : bp_cw mX1_link ∈ bp_UW := by rw [bp_cw0 rfl]; exact uw_569
abbrev mX1_isBrokenDuring : bp_M := (RX1, yX1_isBrokenDuring, cX1_isBrokenDuring, 3, (Option.some FieldType.boolean), [])
theorem uw_396 : Cond.code ⟨"Boreplan$Machine", "isBrokenDuring", "(II)Z"⟩ prog_3_method_7_code 3 (Option.some FieldType.boolean) ∈ bp_UW := bp_uw 396 (by decide +kernel) (by decide +kernel)
theorem cw_X1_isBrokenDuring : bp_cw mX1_isBrokenDuring ∈ bp_UW := by rw [bp_cw0 rfl]; exact uw_396
abbrev mX1_leastStart : bp_M := (RX1, yX1_leastStart, cX1_leastStart, 3, (Option.some FieldType.int), [])
theorem uw_392 : Cond.code ⟨"Boreplan$Machine", "leastStart", "(II)I"⟩ prog_3_method_8_code 3 (Option.some FieldType.int) ∈ bp_UW := bp_uw 392 (by decide +kernel) (by decide +kernel)
theorem cw_X1_leastStart : bp_cw mX1_leastStart ∈ bp_UW := by rw [bp_cw0 rfl]; exact uw_392
abbrev mX1_greatestStart : bp_M := (RX1, yX1_greatestStart, cX1_greatestStart, 3, (Option.some FieldType.int), [])
theorem uw_677 : Cond.code ⟨"Boreplan$Machine", "greatestStart", "(II)I"⟩ prog_3_method_9_code 3 (Option.some FieldType.int) ∈ bp_UW := bp_uw 677 (by decide +kernel) (by decide +kernel)
theorem cw_X1_greatestStart : bp_cw mX1_greatestStart ∈ bp_UW := by rw [bp_cw0 rfl]; exact uw_677
abbrev mX1_leastLoads : bp_M := (RX1, yX1_leastLoads, cX1_leastLoads, 6, (Option.some FieldType.int), [])
theorem uw_716 : Cond.code ⟨"Boreplan$Machine", "leastLoads", "()I"⟩ prog_3_method_10_code 6 (Option.some FieldType.int) ∈ bp_UW := bp_uw 716 (by decide +kernel) (by decide +kernel)
theorem cw_X1_leastLoads : bp_cw mX1_leastLoads ∈ bp_UW := by rw [bp_cw0 rfl]; exact uw_716
abbrev mX1_neededLast : bp_M := (RX1, yX1_neededLast, cX1_neededLast, 6, (Option.some FieldType.int), [])
theorem uw_721 : Cond.code ⟨"Boreplan$Machine", "neededLast", "(II)I"⟩ prog_3_method_11_code 6 (Option.some FieldType.int) ∈ bp_UW := bp_uw 721 (by decide +kernel) (by decide +kernel)
theorem cw_X1_neededLast : bp_cw mX1_neededLast ∈ bp_UW := by rw [bp_cw0 rfl]; exact uw_721
abbrev mX2_init : bp_M := (RX2, yX2_init, cX2_init, 7, (Option.none : Option ClassFile.FieldType), [])
theorem uw_467 : Cond.code ⟨"Boreplan$Operation", "<init>", "(LBoreplan$Job;ILBoreplan$Machine;III)V"⟩ prog_4_method_1_code 7 (Option.none : Option ClassFile.FieldType) ∈ bp_UW := bp_uw 467 (by decide +kernel) (by decide +kernel)
theorem cw_X2_init : bp_cw mX2_init ∈ bp_UW := by rw [bp_cw0 rfl]; exact uw_467
abbrev mX2_code : bp_M := (RX2, yX2_code, cX2_code, 1, (Option.some FieldType.int), [])
theorem uw_621 : Cond.code ⟨"Boreplan$Operation", "code", "()I"⟩ prog_4_method_2_code 1 (Option.some FieldType.int) ∈ bp_UW := bp_uw 621 (by decide +kernel) (by decide +kernel)
theorem cw_X2_code : bp_cw mX2_code ∈ bp_UW := by rw [bp_cw0 rfl]; exact uw_621
abbrev mX3_init : bp_M := (RX3, yX3_init, cX3_init, 1, (Option.none : Option ClassFile.FieldType), [])
theorem uw_89 : Cond.code ⟨"Boreplan$Setups", "<init>", "()V"⟩ prog_5_method_1_code 1 (Option.none : Option ClassFile.FieldType) ∈ bp_UW := bp_uw 89 (by decide +kernel) (by decide +kernel)
theorem cw_X3_init : bp_cw mX3_init ∈ bp_UW := by rw [bp_cw0 rfl]; exact uw_89
abbrev mX3_between : bp_M := (RX3, yX3_between, cX3_between, 4, (Option.some FieldType.int), [])
theorem uw_387 : Cond.code ⟨"Boreplan$Setups", "between", "(LBoreplan$Operation;LBoreplan$Operation;)I"⟩ prog_5_method_2_code 4 (Option.some FieldType.int) ∈ bp_UW := bp_uw 387 (by decide +kernel) (by decide +kernel)
theorem cw_X3_between : bp_cw mX3_between ∈ bp_UW := by rw [bp_cw0 rfl]; exact uw_387
abbrev mX3_sumOf : bp_M := (RX3, yX3_sumOf, cX3_sumOf, 5, (Option.some FieldType.int), [])
theorem uw_729 : Cond.code ⟨"Boreplan$Setups", "sumOf", "(LBoreplan$Machine;)I"⟩ prog_5_method_3_code 5 (Option.some FieldType.int) ∈ bp_UW := bp_uw 729 (by decide +kernel) (by decide +kernel)
theorem cw_X3_sumOf : bp_cw mX3_sumOf ∈ bp_UW := by rw [bp_cw0 rfl]; exact uw_729
abbrev mX4_init : bp_M := (RX4, yX4_init, cX4_init, 1, (Option.none : Option ClassFile.FieldType), [])
theorem uw_57 : Cond.code ⟨"Boreplan$Shop", "<init>", "()V"⟩ prog_6_method_1_code 1 (Option.none : Option ClassFile.FieldType) ∈ bp_UW := bp_uw 57 (by decide +kernel) (by decide +kernel)
theorem cw_X4_init : bp_cw mX4_init ∈ bp_UW := by rw [bp_cw0 rfl]; exact uw_57
abbrev mX4_insertAtBestPlace : bp_M := (RX4, yX4_insertAtBestPlace, cX4_insertAtBestPlace, 8, (Option.none : Option ClassFile.FieldType), [])
theorem uw_580 : Cond.code ⟨"Boreplan$Shop", "insertAtBestPlace", "(LBoreplan$Operation;)V"⟩ prog_6_method_2_code 8 (Option.none : Option ClassFile.FieldType) ∈ bp_UW := bp_uw 580 (by decide +kernel) (by decide +kernel)
theorem cw_X4_insertAtBestPlace : bp_cw mX4_insertAtBestPlace ∈ bp_UW := by rw [bp_cw0 rfl]; exact uw_580
abbrev mX4_timeAll : bp_M := (RX4, yX4_timeAll, cX4_timeAll, 5, (Option.some FieldType.boolean), [])
theorem uw_362 : Cond.code ⟨"Boreplan$Shop", "timeAll", "()Z"⟩ prog_6_method_3_code 5 (Option.some FieldType.boolean) ∈ bp_UW := bp_uw 362 (by decide +kernel) (by decide +kernel)
theorem cw_X4_timeAll : bp_cw mX4_timeAll ∈ bp_UW := by rw [bp_cw0 rfl]; exact uw_362
abbrev mX4_begin : bp_M := (RX4, yX4_begin, cX4_begin, 3, (Option.some FieldType.int), [])
theorem uw_366 : Cond.code ⟨"Boreplan$Shop", "begin", "()I"⟩ prog_6_method_4_code 3 (Option.some FieldType.int) ∈ bp_UW := bp_uw 366 (by decide +kernel) (by decide +kernel)
theorem cw_X4_begin : bp_cw mX4_begin ∈ bp_UW := by rw [bp_cw0 rfl]; exact uw_366
abbrev mX4_timeRow : bp_M := (RX4, yX4_timeRow, cX4_timeRow, 4, (Option.none : Option ClassFile.FieldType), [])
theorem uw_378 : Cond.code ⟨"Boreplan$Shop", "timeRow", "(LBoreplan$Machine;)V"⟩ prog_6_method_5_code 4 (Option.none : Option ClassFile.FieldType) ∈ bp_UW := bp_uw 378 (by decide +kernel) (by decide +kernel)
theorem cw_X4_timeRow : bp_cw mX4_timeRow ∈ bp_UW := by rw [bp_cw0 rfl]; exact uw_378
abbrev mX4_timeOne : bp_M := (RX4, yX4_timeOne, cX4_timeOne, 6, (Option.none : Option ClassFile.FieldType), [])
theorem uw_383 : Cond.code ⟨"Boreplan$Shop", "timeOne", "(LBoreplan$Operation;)V"⟩ prog_6_method_6_code 6 (Option.none : Option ClassFile.FieldType) ∈ bp_UW := bp_uw 383 (by decide +kernel) (by decide +kernel)
theorem cw_X4_timeOne : bp_cw mX4_timeOne ∈ bp_UW := by rw [bp_cw0 rfl]; exact uw_383
abbrev mX4_putLaterInRounds : bp_M := (RX4, yX4_putLaterInRounds, cX4_putLaterInRounds, 4, (Option.none : Option ClassFile.FieldType), [])
theorem uw_652 : Cond.code ⟨"Boreplan$Shop", "putLaterInRounds", "()V"⟩ prog_6_method_7_code 4 (Option.none : Option ClassFile.FieldType) ∈ bp_UW := bp_uw 652 (by decide +kernel) (by decide +kernel)
theorem cw_X4_putLaterInRounds : bp_cw mX4_putLaterInRounds ∈ bp_UW := by rw [bp_cw0 rfl]; exact uw_652
abbrev mX4_putRowLater : bp_M := (RX4, yX4_putRowLater, cX4_putRowLater, 6, (Option.some FieldType.boolean), [])
theorem uw_656 : Cond.code ⟨"Boreplan$Shop", "putRowLater", "(LBoreplan$Machine;)Z"⟩ prog_6_method_8_code 6 (Option.some FieldType.boolean) ∈ bp_UW := bp_uw 656 (by decide +kernel) (by decide +kernel)
theorem cw_X4_putRowLater : bp_cw mX4_putRowLater ∈ bp_UW := by rw [bp_cw0 rfl]; exact uw_656
abbrev mX4_readyInRounds : bp_M := (RX4, yX4_readyInRounds, cX4_readyInRounds, 6, (Option.some FieldType.int), [])
theorem uw_660 : Cond.code ⟨"Boreplan$Shop", "readyInRounds", "(LBoreplan$Operation;)I"⟩ prog_6_method_9_code 6 (Option.some FieldType.int) ∈ bp_UW := bp_uw 660 (by decide +kernel) (by decide +kernel)
theorem cw_X4_readyInRounds : bp_cw mX4_readyInRounds ∈ bp_UW := by rw [bp_cw0 rfl]; exact uw_660
abbrev mX4_findLatestStarts : bp_M := (RX4, yX4_findLatestStarts, cX4_findLatestStarts, 4, (Option.none : Option ClassFile.FieldType), [])
theorem uw_668 : Cond.code ⟨"Boreplan$Shop", "findLatestStarts", "()V"⟩ prog_6_method_10_code 4 (Option.none : Option ClassFile.FieldType) ∈ bp_UW := bp_uw 668 (by decide +kernel) (by decide +kernel)
theorem cw_X4_findLatestStarts : bp_cw mX4_findLatestStarts ∈ bp_UW := by rw [bp_cw0 rfl]; exact uw_668
abbrev mX4_latestFinish : bp_M := (RX4, yX4_latestFinish, cX4_latestFinish, 5, (Option.some FieldType.int), [])
theorem uw_672 : Cond.code ⟨"Boreplan$Shop", "latestFinish", "(LBoreplan$Operation;)I"⟩ prog_6_method_11_code 5 (Option.some FieldType.int) ∈ bp_UW := bp_uw 672 (by decide +kernel) (by decide +kernel)
theorem cw_X4_latestFinish : bp_cw mX4_latestFinish ∈ bp_UW := by rw [bp_cw0 rfl]; exact uw_672
abbrev mX4_findPath : bp_M := (RX4, yX4_findPath, cX4_findPath, 3, (Option.none : Option ClassFile.FieldType), [])
theorem uw_693 : Cond.code ⟨"Boreplan$Shop", "findPath", "()V"⟩ prog_6_method_12_code 3 (Option.none : Option ClassFile.FieldType) ∈ bp_UW := bp_uw 693 (by decide +kernel) (by decide +kernel)
theorem cw_X4_findPath : bp_cw mX4_findPath ∈ bp_UW := by rw [bp_cw0 rfl]; exact uw_693
abbrev mX4_lastOfPath : bp_M := (RX4, yX4_lastOfPath, cX4_lastOfPath, 4, (Option.some (FieldType.object "Boreplan$Operation")), [])
theorem uw_697 : Cond.code ⟨"Boreplan$Shop", "lastOfPath", "()LBoreplan$Operation;"⟩ prog_6_method_13_code 4 (Option.some (FieldType.object "Boreplan$Operation")) ∈ bp_UW := bp_uw 697 (by decide +kernel) (by decide +kernel)
theorem cw_X4_lastOfPath : bp_cw mX4_lastOfPath ∈ bp_UW := by rw [bp_cw0 rfl]; exact uw_697
abbrev mX4_aheadOnPath : bp_M := (RX4, yX4_aheadOnPath, cX4_aheadOnPath, 4, (Option.some (FieldType.object "Boreplan$Operation")), [])
theorem uw_701 : Cond.code ⟨"Boreplan$Shop", "aheadOnPath", "(LBoreplan$Operation;)LBoreplan$Operation;"⟩ prog_6_method_14_code 4 (Option.some (FieldType.object "Boreplan$Operation")) ∈ bp_UW := bp_uw 701 (by decide +kernel) (by decide +kernel)
theorem cw_X4_aheadOnPath : bp_cw mX4_aheadOnPath ∈ bp_UW := by rw [bp_cw0 rfl]; exact uw_701
abbrev mX5_init : bp_M := (RX5, yX5_init, cX5_init, 1, (Option.none : Option ClassFile.FieldType), [])
theorem uw_49 : Cond.code ⟨"Boreplan", "<init>", "()V"⟩ prog_1_method_1_code 1 (Option.none : Option ClassFile.FieldType) ∈ bp_UW := bp_uw 49 (by decide +kernel) (by decide +kernel)
theorem cw_X5_init : bp_cw mX5_init ∈ bp_UW := by rw [bp_cw0 rfl]; exact uw_49
abbrev mX5_addMachine : bp_M := (RX5, yX5_addMachine, cX5_addMachine, 1, (Option.some FieldType.int), [])
theorem uw_130 : Cond.code ⟨"Boreplan", "addMachine", "()I"⟩ prog_1_method_2_code 1 (Option.some FieldType.int) ∈ bp_UW := bp_uw 130 (by decide +kernel) (by decide +kernel)
theorem cw_X5_addMachine : bp_cw mX5_addMachine ∈ bp_UW := by rw [bp_cw0 rfl]; exact uw_130
abbrev mX5_setMagazine : bp_M := (RX5, yX5_setMagazine, cX5_setMagazine, 5, (Option.some FieldType.int), [])
theorem uw_301 : Cond.code ⟨"Boreplan", "setMagazine", "(II)I"⟩ prog_1_method_3_code 5 (Option.some FieldType.int) ∈ bp_UW := bp_uw 301 (by decide +kernel) (by decide +kernel)
theorem cw_X5_setMagazine : bp_cw mX5_setMagazine ∈ bp_UW := by rw [bp_cw0 rfl]; exact uw_301
abbrev mX5_breakdown : bp_M := (RX5, yX5_breakdown, cX5_breakdown, 5, (Option.some FieldType.int), [])
theorem uw_356 : Cond.code ⟨"Boreplan", "breakdown", "(III)I"⟩ prog_1_method_4_code 5 (Option.some FieldType.int) ∈ bp_UW := bp_uw 356 (by decide +kernel) (by decide +kernel)
theorem cw_X5_breakdown : bp_cw mX5_breakdown ∈ bp_UW := by rw [bp_cw0 rfl]; exact uw_356
abbrev mX5_repair : bp_M := (RX5, yX5_repair, cX5_repair, 4, (Option.some FieldType.boolean), [])
theorem uw_401 : Cond.code ⟨"Boreplan", "repair", "(I)Z"⟩ prog_1_method_5_code 4 (Option.some FieldType.boolean) ∈ bp_UW := bp_uw 401 (by decide +kernel) (by decide +kernel)
theorem cw_X5_repair : bp_cw mX5_repair ∈ bp_UW := by rw [bp_cw0 rfl]; exact uw_401
abbrev mX5_addJob : bp_M := (RX5, yX5_addJob, cX5_addJob, 2, (Option.some FieldType.int), [])
theorem uw_405 : Cond.code ⟨"Boreplan", "addJob", "(I)I"⟩ prog_1_method_6_code 2 (Option.some FieldType.int) ∈ bp_UW := bp_uw 405 (by decide +kernel) (by decide +kernel)
theorem cw_X5_addJob : bp_cw mX5_addJob ∈ bp_UW := by rw [bp_cw0 rfl]; exact uw_405
abbrev mX5_addOperation : bp_M := (RX5, yX5_addOperation, cX5_addOperation, 8, (Option.some FieldType.int), [])
theorem uw_440 : Cond.code ⟨"Boreplan", "addOperation", "(IIIII)I"⟩ prog_1_method_7_code 8 (Option.some FieldType.int) ∈ bp_UW := bp_uw 440 (by decide +kernel) (by decide +kernel)
theorem cw_X5_addOperation : bp_cw mX5_addOperation ∈ bp_UW := by rw [bp_cw0 rfl]; exact uw_440
abbrev mX5_setSetup : bp_M := (RX5, yX5_setSetup, cX5_setSetup, 5, (Option.some FieldType.int), [])
theorem uw_536 : Cond.code ⟨"Boreplan", "setSetup", "(III)I"⟩ prog_1_method_8_code 5 (Option.some FieldType.int) ∈ bp_UW := bp_uw 536 (by decide +kernel) (by decide +kernel)
theorem cw_X5_setSetup : bp_cw mX5_setSetup ∈ bp_UW := by rw [bp_cw0 rfl]; exact uw_536
abbrev mX5_place : bp_M := (RX5, yX5_place, cX5_place, 5, (Option.some FieldType.int), [])
theorem uw_542 : Cond.code ⟨"Boreplan", "place", "(I)I"⟩ prog_1_method_9_code 5 (Option.some FieldType.int) ∈ bp_UW := bp_uw 542 (by decide +kernel) (by decide +kernel)
theorem cw_X5_place : bp_cw mX5_place ∈ bp_UW := by rw [bp_cw0 rfl]; exact uw_542
abbrev mX5_rush : bp_M := (RX5, yX5_rush, cX5_rush, 4, (Option.some FieldType.int), [])
theorem uw_576 : Cond.code ⟨"Boreplan", "rush", "(I)I"⟩ prog_1_method_10_code 4 (Option.some FieldType.int) ∈ bp_UW := bp_uw 576 (by decide +kernel) (by decide +kernel)
theorem cw_X5_rush : bp_cw mX5_rush ∈ bp_UW := by rw [bp_cw0 rfl]; exact uw_576
abbrev mX5_remove : bp_M := (RX5, yX5_remove, cX5_remove, 4, (Option.some FieldType.int), [])
theorem uw_599 : Cond.code ⟨"Boreplan", "remove", "(I)I"⟩ prog_1_method_11_code 4 (Option.some FieldType.int) ∈ bp_UW := bp_uw 599 (by decide +kernel) (by decide +kernel)
theorem cw_X5_remove : bp_cw mX5_remove ∈ bp_UW := by rw [bp_cw0 rfl]; exact uw_599
abbrev mX5_placed : bp_M := (RX5, yX5_placed, cX5_placed, 2, (Option.some FieldType.int), [])
theorem uw_612 : Cond.code ⟨"Boreplan", "placed", "(I)I"⟩ prog_1_method_13_code 2 (Option.some FieldType.int) ∈ bp_UW := bp_uw 612 (by decide +kernel) (by decide +kernel)
theorem cw_X5_placed : bp_cw mX5_placed ∈ bp_UW := by rw [bp_cw0 rfl]; exact uw_612
abbrev mX5_placedAt : bp_M := (RX5, yX5_placedAt, cX5_placedAt, 4, (Option.some FieldType.int), [])
theorem uw_616 : Cond.code ⟨"Boreplan", "placedAt", "(II)I"⟩ prog_1_method_14_code 4 (Option.some FieldType.int) ∈ bp_UW := bp_uw 616 (by decide +kernel) (by decide +kernel)
theorem cw_X5_placedAt : bp_cw mX5_placedAt ∈ bp_UW := by rw [bp_cw0 rfl]; exact uw_616
abbrev mX5_startOf : bp_M := (RX5, yX5_startOf, cX5_startOf, 3, (Option.some FieldType.int), [])
theorem uw_639 : Cond.code ⟨"Boreplan", "startOf", "(II)I"⟩ prog_1_method_15_code 3 (Option.some FieldType.int) ∈ bp_UW := bp_uw 639 (by decide +kernel) (by decide +kernel)
theorem cw_X5_startOf : bp_cw mX5_startOf ∈ bp_UW := by rw [bp_cw0 rfl]; exact uw_639
abbrev mX5_startByRounds : bp_M := (RX5, yX5_startByRounds, cX5_startByRounds, 4, (Option.some FieldType.int), [])
theorem uw_648 : Cond.code ⟨"Boreplan", "startByRounds", "(II)I"⟩ prog_1_method_16_code 4 (Option.some FieldType.int) ∈ bp_UW := bp_uw 648 (by decide +kernel) (by decide +kernel)
theorem cw_X5_startByRounds : bp_cw mX5_startByRounds ∈ bp_UW := by rw [bp_cw0 rfl]; exact uw_648
abbrev mX5_lateness : bp_M := (RX5, yX5_lateness, cX5_lateness, 5, (Option.some FieldType.int), [])
theorem uw_681 : Cond.code ⟨"Boreplan", "lateness", "(I)I"⟩ prog_1_method_17_code 5 (Option.some FieldType.int) ∈ bp_UW := bp_uw 681 (by decide +kernel) (by decide +kernel)
theorem cw_X5_lateness : bp_cw mX5_lateness ∈ bp_UW := by rw [bp_cw0 rfl]; exact uw_681
abbrev mX5_span : bp_M := (RX5, yX5_span, cX5_span, 1, (Option.some FieldType.int), [])
theorem uw_625 : Cond.code ⟨"Boreplan", "span", "()I"⟩ prog_1_method_18_code 1 (Option.some FieldType.int) ∈ bp_UW := bp_uw 625 (by decide +kernel) (by decide +kernel)
theorem cw_X5_span : bp_cw mX5_span ∈ bp_UW := by rw [bp_cw0 rfl]; exact uw_625
abbrev mX5_slack : bp_M := (RX5, yX5_slack, cX5_slack, 4, (Option.some FieldType.int), [])
theorem uw_664 : Cond.code ⟨"Boreplan", "slack", "(II)I"⟩ prog_1_method_19_code 4 (Option.some FieldType.int) ∈ bp_UW := bp_uw 664 (by decide +kernel) (by decide +kernel)
theorem cw_X5_slack : bp_cw mX5_slack ∈ bp_UW := by rw [bp_cw0 rfl]; exact uw_664
abbrev mX5_criticals : bp_M := (RX5, yX5_criticals, cX5_criticals, 1, (Option.some FieldType.int), [])
theorem uw_689 : Cond.code ⟨"Boreplan", "criticals", "()I"⟩ prog_1_method_20_code 1 (Option.some FieldType.int) ∈ bp_UW := bp_uw 689 (by decide +kernel) (by decide +kernel)
theorem cw_X5_criticals : bp_cw mX5_criticals ∈ bp_UW := by rw [bp_cw0 rfl]; exact uw_689
abbrev mX5_criticalAt : bp_M := (RX5, yX5_criticalAt, cX5_criticalAt, 2, (Option.some FieldType.int), [])
theorem uw_705 : Cond.code ⟨"Boreplan", "criticalAt", "(I)I"⟩ prog_1_method_21_code 2 (Option.some FieldType.int) ∈ bp_UW := bp_uw 705 (by decide +kernel) (by decide +kernel)
theorem cw_X5_criticalAt : bp_cw mX5_criticalAt ∈ bp_UW := by rw [bp_cw0 rfl]; exact uw_705
abbrev mX5_setups : bp_M := (RX5, yX5_setups, cX5_setups, 2, (Option.some FieldType.int), [])
theorem uw_725 : Cond.code ⟨"Boreplan", "setups", "(I)I"⟩ prog_1_method_22_code 2 (Option.some FieldType.int) ∈ bp_UW := bp_uw 725 (by decide +kernel) (by decide +kernel)
theorem cw_X5_setups : bp_cw mX5_setups ∈ bp_UW := by rw [bp_cw0 rfl]; exact uw_725
abbrev mX5_loads : bp_M := (RX5, yX5_loads, cX5_loads, 2, (Option.some FieldType.int), [])
theorem uw_712 : Cond.code ⟨"Boreplan", "loads", "(I)I"⟩ prog_1_method_23_code 2 (Option.some FieldType.int) ∈ bp_UW := bp_uw 712 (by decide +kernel) (by decide +kernel)
theorem cw_X5_loads : bp_cw mX5_loads ∈ bp_UW := by rw [bp_cw0 rfl]; exact uw_712
abbrev mX5_knownMachine : bp_M := (RX5, yX5_knownMachine, cX5_knownMachine, 2, (Option.some (FieldType.object "Boreplan$Machine")), [])
theorem uw_305 : Cond.code ⟨"Boreplan", "knownMachine", "(I)LBoreplan$Machine;"⟩ prog_1_method_24_code 2 (Option.some (FieldType.object "Boreplan$Machine")) ∈ bp_UW := bp_uw 305 (by decide +kernel) (by decide +kernel)
theorem cw_X5_knownMachine : bp_cw mX5_knownMachine ∈ bp_UW := by rw [bp_cw0 rfl]; exact uw_305
abbrev mX5_knownJob : bp_M := (RX5, yX5_knownJob, cX5_knownJob, 2, (Option.some (FieldType.object "Boreplan$Job")), [])
theorem uw_444 : Cond.code ⟨"Boreplan", "knownJob", "(I)LBoreplan$Job;"⟩ prog_1_method_25_code 2 (Option.some (FieldType.object "Boreplan$Job")) ∈ bp_UW := bp_uw 444 (by decide +kernel) (by decide +kernel)
theorem cw_X5_knownJob : bp_cw mX5_knownJob ∈ bp_UW := by rw [bp_cw0 rfl]; exact uw_444
abbrev mX5_placedJob : bp_M := (RX5, yX5_placedJob, cX5_placedJob, 3, (Option.some (FieldType.object "Boreplan$Job")), [])
theorem uw_603 : Cond.code ⟨"Boreplan", "placedJob", "(I)LBoreplan$Job;"⟩ prog_1_method_26_code 3 (Option.some (FieldType.object "Boreplan$Job")) ∈ bp_UW := bp_uw 603 (by decide +kernel) (by decide +kernel)
theorem cw_X5_placedJob : bp_cw mX5_placedJob ∈ bp_UW := by rw [bp_cw0 rfl]; exact uw_603
abbrev mX5_waitingJob : bp_M := (RX5, yX5_waitingJob, cX5_waitingJob, 3, (Option.some (FieldType.object "Boreplan$Job")), [])
theorem uw_546 : Cond.code ⟨"Boreplan", "waitingJob", "(I)LBoreplan$Job;"⟩ prog_1_method_27_code 3 (Option.some (FieldType.object "Boreplan$Job")) ∈ bp_UW := bp_uw 546 (by decide +kernel) (by decide +kernel)
theorem cw_X5_waitingJob : bp_cw mX5_waitingJob ∈ bp_UW := by rw [bp_cw0 rfl]; exact uw_546
abbrev mX5_placedOperation : bp_M := (RX5, yX5_placedOperation, cX5_placedOperation, 4, (Option.some (FieldType.object "Boreplan$Operation")), [])
theorem uw_643 : Cond.code ⟨"Boreplan", "placedOperation", "(II)LBoreplan$Operation;"⟩ prog_1_method_28_code 4 (Option.some (FieldType.object "Boreplan$Operation")) ∈ bp_UW := bp_uw 643 (by decide +kernel) (by decide +kernel)
theorem cw_X5_placedOperation : bp_cw mX5_placedOperation ∈ bp_UW := by rw [bp_cw0 rfl]; exact uw_643
abbrev mL_cell : bp_M := (RL, yL_cell, cL_cell, 2, (Option.some FieldType.int), [])
theorem uw_628 : Cond.code ⟨"BoreplanLaw", "cell", "([II)I"⟩ method_2_code 2 (Option.some FieldType.int) ∈ bp_UW := bp_uw 628 (by decide +kernel) (by decide +kernel)
theorem cw_L_cell : bp_cw mL_cell ∈ bp_UW := by rw [bp_cw0 rfl]; exact uw_628
abbrev mL_low : bp_M := (RL, yL_low, cL_low, 2, (Option.some FieldType.int), [])
theorem uw_631 : Cond.code ⟨"BoreplanLaw", "low", "(II)I"⟩ method_3_code 2 (Option.some FieldType.int) ∈ bp_UW := bp_uw 631 (by decide +kernel) (by decide +kernel)
theorem cw_L_low : bp_cw mL_low ∈ bp_UW := by rw [bp_cw0 rfl]; exact uw_631
abbrev mL_areTimes : bp_M := (RL, yL_areTimes, cL_areTimes, 13, (Option.some FieldType.boolean), [])
theorem uw_635 : Cond.code ⟨"BoreplanLaw", "areTimes", "(LBoreplan;[I[I[I[II)Z"⟩ method_4_code 13 (Option.some FieldType.boolean) ∈ bp_UW := bp_uw 635 (by decide +kernel) (by decide +kernel)
theorem cw_L_areTimes : bp_cw mL_areTimes ∈ bp_UW := by rw [bp_cw0 rfl]; exact uw_635
abbrev mL_isPath : bp_M := (RL, yL_isPath, cL_isPath, 10, (Option.some FieldType.boolean), [])
theorem uw_685 : Cond.code ⟨"BoreplanLaw", "isPath", "(LBoreplan;[III)Z"⟩ method_5_code 10 (Option.some FieldType.boolean) ∈ bp_UW := bp_uw 685 (by decide +kernel) (by decide +kernel)
theorem cw_L_isPath : bp_cw mL_isPath ∈ bp_UW := by rw [bp_cw0 rfl]; exact uw_685
abbrev mL_areRows : bp_M := (RL, yL_areRows, cL_areRows, 11, (Option.some FieldType.boolean), [])
theorem uw_708 : Cond.code ⟨"BoreplanLaw", "areRows", "(LBoreplan;[I[I[III)Z"⟩ method_6_code 11 (Option.some FieldType.boolean) ∈ bp_UW := bp_uw 708 (by decide +kernel) (by decide +kernel)
theorem cw_L_areRows : bp_cw mL_areRows ∈ bp_UW := by rw [bp_cw0 rfl]; exact uw_708
abbrev mL_law : bp_M := (RL, yL_law, cL_law, 16, some .boolean, [])
abbrev mJx4a65c_init_da8c8 : bp_M := (RJx4a65c, yJx4a65c_init_da8c8, cJx4a65c_init_da8c8, 1, (Option.none : Option ClassFile.FieldType), [])
theorem uw_63 : Cond.code ⟨"java/util/ArrayList", "<init>", "()V"⟩ prog_24_method_2_code 1 (Option.none : Option ClassFile.FieldType) ∈ bp_UW := bp_uw 63 (by decide +kernel) (by decide +kernel)
theorem cw_Jx4a65c_init_da8c8 : bp_cw mJx4a65c_init_da8c8 ∈ bp_UW := by rw [bp_cw0 rfl]; exact uw_63
abbrev mJx4a65c_grow_92f84 : bp_M := (RJx4a65c, yJx4a65c_grow_92f84, cJx4a65c_grow_92f84, 4, (Option.some (FieldType.array (FieldType.object "java/lang/Object"))), [])
theorem uw_256 : Cond.code ⟨"java/util/ArrayList", "grow", "(I)[Ljava/lang/Object;"⟩ prog_24_method_6_code 4 (Option.some (FieldType.array (FieldType.object "java/lang/Object"))) ∈ bp_UW := bp_uw 256 (by decide +kernel) (by decide +kernel)
theorem cw_Jx4a65c_grow_92f84 : bp_cw mJx4a65c_grow_92f84 ∈ bp_UW := by rw [bp_cw0 rfl]; exact uw_256
abbrev mJx4a65c_grow_d5877 : bp_M := (RJx4a65c, yJx4a65c_grow_d5877, cJx4a65c_grow_d5877, 1, (Option.some (FieldType.array (FieldType.object "java/lang/Object"))), [])
theorem uw_252 : Cond.code ⟨"java/util/ArrayList", "grow", "()[Ljava/lang/Object;"⟩ prog_24_method_7_code 1 (Option.some (FieldType.array (FieldType.object "java/lang/Object"))) ∈ bp_UW := bp_uw 252 (by decide +kernel) (by decide +kernel)
theorem cw_Jx4a65c_grow_d5877 : bp_cw mJx4a65c_grow_d5877 ∈ bp_UW := by rw [bp_cw0 rfl]; exact uw_252
abbrev mJx4a65c_size_8abf5 : bp_M := (RJx4a65c, yJx4a65c_size_8abf5, cJx4a65c_size_8abf5, 1, (Option.some FieldType.int), [])
theorem uw_134 : Cond.code ⟨"java/util/ArrayList", "size", "()I"⟩ prog_24_method_8_code 1 (Option.some FieldType.int) ∈ bp_UW := bp_uw 134 (by decide +kernel) (by decide +kernel)
theorem cw_Jx4a65c_size_8abf5 : bp_cw mJx4a65c_size_8abf5 ∈ bp_UW := by rw [bp_cw0 rfl]; exact uw_134
abbrev mJx4a65c_isEmpty_aae02 : bp_M := (RJx4a65c, yJx4a65c_isEmpty_aae02, cJx4a65c_isEmpty_aae02, 1, (Option.some FieldType.boolean), [])
theorem uw_550 : Cond.code ⟨"java/util/ArrayList", "isEmpty", "()Z"⟩ prog_24_method_9_code 1 (Option.some FieldType.boolean) ∈ bp_UW := bp_uw 550 (by decide +kernel) (by decide +kernel)
theorem cw_Jx4a65c_isEmpty_aae02 : bp_cw mJx4a65c_isEmpty_aae02 ∈ bp_UW := by rw [bp_cw0 rfl]; exact uw_550
abbrev mJx4a65c_elementData_915e3 : bp_M := (RJx4a65c, yJx4a65c_elementData_915e3, cJx4a65c_elementData_915e3, 2, (Option.some (FieldType.object "java/lang/Object")), [])
theorem uw_335 : Cond.code ⟨"java/util/ArrayList", "elementData", "(I)Ljava/lang/Object;"⟩ prog_24_method_18_code 2 (Option.some (FieldType.object "java/lang/Object")) ∈ bp_UW := bp_uw 335 (by decide +kernel) (by decide +kernel)
theorem cw_Jx4a65c_elementData_915e3 : bp_cw mJx4a65c_elementData_915e3 ∈ bp_UW := by rw [bp_cw0 rfl]; exact uw_335
abbrev mJx4a65c_get_915e3 : bp_M := (RJx4a65c, yJx4a65c_get_915e3, cJx4a65c_get_915e3, 2, (Option.some (FieldType.object "java/lang/Object")), [])
theorem uw_325 : Cond.code ⟨"java/util/ArrayList", "get", "(I)Ljava/lang/Object;"⟩ prog_24_method_20_code 2 (Option.some (FieldType.object "java/lang/Object")) ∈ bp_UW := bp_uw 325 (by decide +kernel) (by decide +kernel)
theorem cw_Jx4a65c_get_915e3 : bp_cw mJx4a65c_get_915e3 ∈ bp_UW := by rw [bp_cw0 rfl]; exact uw_325
abbrev mJx4a65c_add_72be8 : bp_M := (RJx4a65c, yJx4a65c_add_72be8, cJx4a65c_add_72be8, 4, (Option.none : Option ClassFile.FieldType), [])
theorem uw_248 : Cond.code ⟨"java/util/ArrayList", "add", "(Ljava/lang/Object;[Ljava/lang/Object;I)V"⟩ prog_24_method_24_code 4 (Option.none : Option ClassFile.FieldType) ∈ bp_UW := bp_uw 248 (by decide +kernel) (by decide +kernel)
theorem cw_Jx4a65c_add_72be8 : bp_cw mJx4a65c_add_72be8 ∈ bp_UW := by rw [bp_cw0 rfl]; exact uw_248
abbrev mJx4a65c_add_9ea2d : bp_M := (RJx4a65c, yJx4a65c_add_9ea2d, cJx4a65c_add_9ea2d, 2, (Option.some FieldType.boolean), [])
theorem uw_244 : Cond.code ⟨"java/util/ArrayList", "add", "(Ljava/lang/Object;)Z"⟩ prog_24_method_25_code 2 (Option.some FieldType.boolean) ∈ bp_UW := bp_uw 244 (by decide +kernel) (by decide +kernel)
theorem cw_Jx4a65c_add_9ea2d : bp_cw mJx4a65c_add_9ea2d ∈ bp_UW := by rw [bp_cw0 rfl]; exact uw_244
abbrev mJx4a65c_add_7a177 : bp_M := (RJx4a65c, yJx4a65c_add_7a177, cJx4a65c_add_7a177, 5, (Option.none : Option ClassFile.FieldType), [])
theorem uw_560 : Cond.code ⟨"java/util/ArrayList", "add", "(ILjava/lang/Object;)V"⟩ prog_24_method_26_code 5 (Option.none : Option ClassFile.FieldType) ∈ bp_UW := bp_uw 560 (by decide +kernel) (by decide +kernel)
theorem cw_Jx4a65c_add_7a177 : bp_cw mJx4a65c_add_7a177 ∈ bp_UW := by rw [bp_cw0 rfl]; exact uw_560
abbrev mJx4a65c_remove_915e3 : bp_M := (RJx4a65c, yJx4a65c_remove_915e3, cJx4a65c_remove_915e3, 4, (Option.some (FieldType.object "java/lang/Object")), [])
theorem uw_591 : Cond.code ⟨"java/util/ArrayList", "remove", "(I)Ljava/lang/Object;"⟩ prog_24_method_29_code 4 (Option.some (FieldType.object "java/lang/Object")) ∈ bp_UW := bp_uw 591 (by decide +kernel) (by decide +kernel)
theorem cw_Jx4a65c_remove_915e3 : bp_cw mJx4a65c_remove_915e3 ∈ bp_UW := by rw [bp_cw0 rfl]; exact uw_591
abbrev mJx4a65c_fastRemove_b59b0 : bp_M := (RJx4a65c, yJx4a65c_fastRemove_b59b0, cJx4a65c_fastRemove_b59b0, 4, (Option.none : Option ClassFile.FieldType), [])
theorem uw_595 : Cond.code ⟨"java/util/ArrayList", "fastRemove", "([Ljava/lang/Object;I)V"⟩ prog_24_method_39_code 4 (Option.none : Option ClassFile.FieldType) ∈ bp_UW := bp_uw 595 (by decide +kernel) (by decide +kernel)
theorem cw_Jx4a65c_fastRemove_b59b0 : bp_cw mJx4a65c_fastRemove_b59b0 ∈ bp_UW := by rw [bp_cw0 rfl]; exact uw_595
abbrev mJx4a65c_clear_da8c8 : bp_M := (RJx4a65c, yJx4a65c_clear_da8c8, cJx4a65c_clear_da8c8, 4, (Option.none : Option ClassFile.FieldType), [])
theorem uw_370 : Cond.code ⟨"java/util/ArrayList", "clear", "()V"⟩ prog_24_method_40_code 4 (Option.none : Option ClassFile.FieldType) ∈ bp_UW := bp_uw 370 (by decide +kernel) (by decide +kernel)
theorem cw_Jx4a65c_clear_da8c8 : bp_cw mJx4a65c_clear_da8c8 ∈ bp_UW := by rw [bp_cw0 rfl]; exact uw_370
abbrev mJx4a65c_rangeCheckForAdd_d00df : bp_M := (RJx4a65c, yJx4a65c_rangeCheckForAdd_d00df, cJx4a65c_rangeCheckForAdd_d00df, 2, (Option.none : Option ClassFile.FieldType), [])
theorem uw_564 : Cond.code ⟨"java/util/ArrayList", "rangeCheckForAdd", "(I)V"⟩ prog_24_method_45_code 2 (Option.none : Option ClassFile.FieldType) ∈ bp_UW := bp_uw 564 (by decide +kernel) (by decide +kernel)
theorem cw_Jx4a65c_rangeCheckForAdd_d00df : bp_cw mJx4a65c_rangeCheckForAdd_d00df ∈ bp_UW := by rw [bp_cw0 rfl]; exact uw_564
abbrev mJxa1e45_init_da8c8 : bp_M := (RJxa1e45, yJxa1e45_init_da8c8, cJxa1e45_init_da8c8, 1, (Option.none : Option ClassFile.FieldType), [])
theorem uw_69 : Cond.code ⟨"java/util/AbstractCollection", "<init>", "()V"⟩ prog_22_method_1_code 1 (Option.none : Option ClassFile.FieldType) ∈ bp_UW := bp_uw 69 (by decide +kernel) (by decide +kernel)
theorem cw_Jxa1e45_init_da8c8 : bp_cw mJxa1e45_init_da8c8 ∈ bp_UW := by rw [bp_cw0 rfl]; exact uw_69
abbrev mJxc12de_init_da8c8 : bp_M := (RJxc12de, yJxc12de_init_da8c8, cJxc12de_init_da8c8, 1, (Option.none : Option ClassFile.FieldType), [])
theorem uw_66 : Cond.code ⟨"java/util/AbstractList", "<init>", "()V"⟩ prog_23_method_1_code 1 (Option.none : Option ClassFile.FieldType) ∈ bp_UW := bp_uw 66 (by decide +kernel) (by decide +kernel)
theorem cw_Jxc12de_init_da8c8 : bp_cw mJxc12de_init_da8c8 ∈ bp_UW := by rw [bp_cw0 rfl]; exact uw_66
abbrev mJ3_checkIndex_8e157 : bp_M := (RJ3, yJ3_checkIndex_8e157, cJ3_checkIndex_8e157, 3, (Option.some FieldType.int), [])
theorem uw_331 : Cond.code ⟨"jdk/internal/util/Preconditions", "checkIndex", "(IILjava/util/function/BiFunction;)I"⟩ prog_32_method_11_code 3 (Option.some FieldType.int) ∈ bp_UW := bp_uw 331 (by decide +kernel) (by decide +kernel)
theorem cw_J3_checkIndex_8e157 : bp_cw mJ3_checkIndex_8e157 ∈ bp_UW := by rw [bp_cw0 rfl]; exact uw_331
abbrev mJ15_checkIndex_7cf53 : bp_M := (RJ15, yJ15_checkIndex_7cf53, cJ15_checkIndex_7cf53, 2, (Option.some FieldType.int), [])
theorem uw_328 : Cond.code ⟨"java/util/Objects", "checkIndex", "(II)I"⟩ prog_28_method_17_code 2 (Option.some FieldType.int) ∈ bp_UW := bp_uw 328 (by decide +kernel) (by decide +kernel)
theorem cw_J15_checkIndex_7cf53 : bp_cw mJ15_checkIndex_7cf53 ∈ bp_UW := by rw [bp_cw0 rfl]; exact uw_328
abbrev mJ8_newLength_cabcc : bp_M := (RJ8, yJ8_newLength_cabcc, cJ8_newLength_cabcc, 4, (Option.some FieldType.int), [])
theorem uw_259 : Cond.code ⟨"jdk/internal/util/ArraysSupport", "newLength", "(III)I"⟩ prog_31_method_27_code 4 (Option.some FieldType.int) ∈ bp_UW := bp_uw 259 (by decide +kernel) (by decide +kernel)
theorem cw_J8_newLength_cabcc : bp_cw mJ8_newLength_cabcc ∈ bp_UW := by rw [bp_cw0 rfl]; exact uw_259
abbrev mJ7_copyOf_6403c : bp_M := (RJ7, yJ7_copyOf_6403c, cJ7_copyOf_6403c, 4, (Option.some (FieldType.array (FieldType.object "java/lang/Object"))), [])
theorem uw_286 : Cond.code ⟨"java/util/Arrays", "copyOf", "([Ljava/lang/Object;ILjava/lang/Class;)[Ljava/lang/Object;"⟩ prog_25_method_120_code 4 (Option.some (FieldType.array (FieldType.object "java/lang/Object"))) ∈ bp_UW := bp_uw 286 (by decide +kernel) (by decide +kernel)
theorem cw_J7_copyOf_6403c : bp_cw mJ7_copyOf_6403c ∈ bp_UW := by rw [bp_cw0 rfl]; exact uw_286
abbrev mJ7_copyOf_1904c : bp_M := (RJ7, yJ7_copyOf_1904c, cJ7_copyOf_1904c, 2, (Option.some (FieldType.array (FieldType.object "java/lang/Object"))), [])
theorem uw_269 : Cond.code ⟨"java/util/Arrays", "copyOf", "([Ljava/lang/Object;I)[Ljava/lang/Object;"⟩ prog_25_method_119_code 2 (Option.some (FieldType.array (FieldType.object "java/lang/Object"))) ∈ bp_UW := bp_uw 269 (by decide +kernel) (by decide +kernel)
theorem cw_J7_copyOf_1904c : bp_cw mJ7_copyOf_1904c ∈ bp_UW := by rw [bp_cw0 rfl]; exact uw_269
abbrev mJ6_bitCount_0f7a4 : bp_M := (RJ6, yJ6_bitCount_0f7a4, cJ6_bitCount_0f7a4, 1, (Option.some FieldType.int), [])
theorem uw_453 : Cond.code ⟨"java/lang/Integer", "bitCount", "(I)I"⟩ prog_15_method_49_code 1 (Option.some FieldType.int) ∈ bp_UW := bp_uw 453 (by decide +kernel) (by decide +kernel)
theorem cw_J6_bitCount_0f7a4 : bp_cw mJ6_bitCount_0f7a4 ∈ bp_UW := by rw [bp_cw0 rfl]; exact uw_453
theorem uw_413 : Cond.methodLink "Boreplan$Job" 1 ⟨"java/lang/Object", "<init>", "()V"⟩ ∈ bp_UW := bp_uw 413 (by decide +kernel) (by decide +kernel)
theorem ml_X0_1 : Cond.methodLink "Boreplan$Job" 1 ⟨"java/lang/Object", "<init>", "()V"⟩ ∈ bp_UW := uw_413
theorem uw_416 : Cond.fieldLink "Boreplan$Job" 7 "Boreplan$Job" "number" "I" ∈ bp_UW := bp_uw 416 (by decide +kernel) (by decide +kernel)
theorem fl_X0_7 : bp_FL RX0 7 0 0 (.int) (some true) := ⟨RX0, TX0, 5, "Boreplan$Job", tyX0, rfl, by decide, uc_X0, tyX0_ok, nmX0, uw_416, Or.inl rfl, rfl, (fun h => by cases h), (fun _ => ⟨rfl, rfl⟩)⟩
theorem uw_418 : Cond.fieldLink "Boreplan$Job" 13 "Boreplan$Job" "due" "I" ∈ bp_UW := bp_uw 418 (by decide +kernel) (by decide +kernel)
theorem fl_X0_13 : bp_FL RX0 13 0 1 (.int) (some true) := ⟨RX0, TX0, 5, "Boreplan$Job", tyX0, rfl, by decide, uc_X0, tyX0_ok, nmX0, uw_418, Or.inl rfl, rfl, (fun h => by cases h), (fun _ => ⟨rfl, rfl⟩)⟩
theorem uw_414 : Cond.classLink "Boreplan$Job" 16 "java/util/ArrayList" ∈ bp_UW := bp_uw 414 (by decide +kernel) (by decide +kernel)
theorem uw_60 : Cond.instantiable "java/util/ArrayList" 3 ∈ bp_UW := bp_uw 60 (by decide +kernel) (by decide +kernel)
theorem uw_27 : Cond.initialized "java/util/ArrayList" ∈ bp_UW := bp_uw 27 (by decide +kernel) (by decide +kernel)
theorem nw_X0_16 : bp_NW RX0 16 7 3 tyJx4a65c := ⟨RJx4a65c, TJx4a65c, rfl, uc_Jx4a65c, tyJx4a65c_ok, uw_414, uw_60, uw_27⟩
theorem uw_415 : Cond.methodLink "Boreplan$Job" 18 ⟨"java/util/ArrayList", "<init>", "()V"⟩ ∈ bp_UW := bp_uw 415 (by decide +kernel) (by decide +kernel)
theorem uw_62 : Cond.instanceMethod ⟨"java/util/ArrayList", "<init>", "()V"⟩ ∈ bp_UW := bp_uw 62 (by decide +kernel) (by decide +kernel)
theorem ml_X0_18 : bp_MI RX0 18 mJx4a65c_init_da8c8 0 := ⟨⟨uw_415, uw_27, cw_Jx4a65c_init_da8c8, ⟨by decide, by decide⟩, by decide +kernel⟩, rfl, rfl, rfl, uw_62⟩
theorem uw_420 : Cond.fieldLink "Boreplan$Job" 19 "Boreplan$Job" "operations" "Ljava/util/ArrayList;" ∈ bp_UW := bp_uw 420 (by decide +kernel) (by decide +kernel)
theorem fl_X0_19 : bp_FL RX0 19 0 2 (.object "java/util/ArrayList") (some true) := ⟨RX0, TX0, 5, "Boreplan$Job", tyX0, rfl, by decide, uc_X0, tyX0_ok, nmX0, uw_420, Or.inl rfl, rfl, (fun h => by cases h), (fun _ => ⟨rfl, rfl⟩)⟩
theorem uw_462 : Cond.methodLink "Boreplan$Job" 23 ⟨"java/util/ArrayList", "size", "()I"⟩ ∈ bp_UW := bp_uw 462 (by decide +kernel) (by decide +kernel)
theorem uw_132 : Cond.instanceMethod ⟨"java/util/ArrayList", "size", "()I"⟩ ∈ bp_UW := bp_uw 132 (by decide +kernel) (by decide +kernel)
theorem uw_133 : Cond.selects "java/util/ArrayList" ⟨"java/util/ArrayList", "size", "()I"⟩ ⟨"java/util/ArrayList", "size", "()I"⟩ ∈ bp_UW := bp_uw 133 (by decide +kernel) (by decide +kernel)
theorem ml_X0_23 : bp_MV RX0 23 mJx4a65c_size_8abf5 0 RJx4a65c := ⟨⟨uw_462, uw_27, cw_Jx4a65c_size_8abf5, ⟨by decide, by decide⟩, by decide +kernel⟩, rfl, uw_132, uw_133⟩
theorem uw_463 : Cond.classLink "Boreplan$Job" 27 "Boreplan$Operation" ∈ bp_UW := bp_uw 463 (by decide +kernel) (by decide +kernel)
theorem uw_464 : Cond.instantiable "Boreplan$Operation" 14 ∈ bp_UW := bp_uw 464 (by decide +kernel) (by decide +kernel)
theorem uw_44 : Cond.initialized "Boreplan$Operation" ∈ bp_UW := bp_uw 44 (by decide +kernel) (by decide +kernel)
theorem nw_X0_27 : bp_NW RX0 27 2 14 tyX2 := ⟨RX2, TX2, rfl, uc_X2, tyX2_ok, uw_463, uw_464, uw_44⟩
theorem uw_465 : Cond.methodLink "Boreplan$Job" 29 ⟨"Boreplan$Operation", "<init>", "(LBoreplan$Job;ILBoreplan$Machine;III)V"⟩ ∈ bp_UW := bp_uw 465 (by decide +kernel) (by decide +kernel)
theorem uw_466 : Cond.instanceMethod ⟨"Boreplan$Operation", "<init>", "(LBoreplan$Job;ILBoreplan$Machine;III)V"⟩ ∈ bp_UW := bp_uw 466 (by decide +kernel) (by decide +kernel)
theorem ml_X0_29 : bp_MI RX0 29 mX2_init 6 := ⟨⟨uw_465, uw_44, cw_X2_init, ⟨by decide, by decide⟩, by decide +kernel⟩, rfl, rfl, rfl, uw_466⟩
theorem uw_529 : Cond.methodLink "Boreplan$Job" 32 ⟨"java/util/ArrayList", "get", "(I)Ljava/lang/Object;"⟩ ∈ bp_UW := bp_uw 529 (by decide +kernel) (by decide +kernel)
theorem uw_323 : Cond.instanceMethod ⟨"java/util/ArrayList", "get", "(I)Ljava/lang/Object;"⟩ ∈ bp_UW := bp_uw 323 (by decide +kernel) (by decide +kernel)
theorem uw_324 : Cond.selects "java/util/ArrayList" ⟨"java/util/ArrayList", "get", "(I)Ljava/lang/Object;"⟩ ⟨"java/util/ArrayList", "get", "(I)Ljava/lang/Object;"⟩ ∈ bp_UW := bp_uw 324 (by decide +kernel) (by decide +kernel)
theorem ml_X0_32 : bp_MV RX0 32 mJx4a65c_get_915e3 1 RJx4a65c := ⟨⟨uw_529, uw_27, cw_Jx4a65c_get_915e3, ⟨by decide, by decide⟩, by decide +kernel⟩, rfl, uw_323, uw_324⟩
theorem cl_X0_27 : Cond.classLink "Boreplan$Job" 27 "Boreplan$Operation" ∈ bp_UW := uw_463
theorem uw_483 : Cond.fieldLink "Boreplan$Job" 36 "Boreplan$Operation" "aheadInJob" "LBoreplan$Operation;" ∈ bp_UW := bp_uw 483 (by decide +kernel) (by decide +kernel)
theorem fl_X0_36 : bp_FL RX0 36 2 6 (.object "Boreplan$Operation") (some false) := ⟨RX2, TX2, 14, "Boreplan$Operation", tyX2, rfl, by decide, uc_X2, tyX2_ok, nmX2, uw_483, Or.inl rfl, rfl, (fun _ => rfl), (fun h => by cases h)⟩
theorem uw_485 : Cond.fieldLink "Boreplan$Job" 40 "Boreplan$Operation" "behindInJob" "LBoreplan$Operation;" ∈ bp_UW := bp_uw 485 (by decide +kernel) (by decide +kernel)
theorem fl_X0_40 : bp_FL RX0 40 2 7 (.object "Boreplan$Operation") (some false) := ⟨RX2, TX2, 14, "Boreplan$Operation", tyX2, rfl, by decide, uc_X2, tyX2_ok, nmX2, uw_485, Or.inl rfl, rfl, (fun _ => rfl), (fun h => by cases h)⟩
theorem uw_530 : Cond.methodLink "Boreplan$Job" 43 ⟨"java/util/ArrayList", "add", "(Ljava/lang/Object;)Z"⟩ ∈ bp_UW := bp_uw 530 (by decide +kernel) (by decide +kernel)
theorem uw_242 : Cond.instanceMethod ⟨"java/util/ArrayList", "add", "(Ljava/lang/Object;)Z"⟩ ∈ bp_UW := bp_uw 242 (by decide +kernel) (by decide +kernel)
theorem uw_243 : Cond.selects "java/util/ArrayList" ⟨"java/util/ArrayList", "add", "(Ljava/lang/Object;)Z"⟩ ⟨"java/util/ArrayList", "add", "(Ljava/lang/Object;)Z"⟩ ∈ bp_UW := bp_uw 243 (by decide +kernel) (by decide +kernel)
theorem ml_X0_43 : bp_MV RX0 43 mJx4a65c_add_9ea2d 1 RJx4a65c := ⟨⟨uw_530, uw_27, cw_Jx4a65c_add_9ea2d, ⟨by decide, by decide⟩, by decide +kernel⟩, rfl, uw_242, uw_243⟩
theorem uw_217 : Cond.fieldLink "Boreplan$Job" 47 "Boreplan$Machine" "mostToolsNeeded" "I" ∈ bp_UW := bp_uw 217 (by decide +kernel) (by decide +kernel)
theorem fl_X0_47 : bp_FL RX0 47 1 2 (.int) (some false) := ⟨RX1, TX1, 7, "Boreplan$Machine", tyX1, rfl, by decide, uc_X1, tyX1_ok, nmX1, uw_217, Or.inl rfl, rfl, (fun _ => rfl), (fun h => by cases h)⟩
theorem uw_531 : Cond.methodLink "Boreplan$Job" 52 ⟨"java/lang/Integer", "bitCount", "(I)I"⟩ ∈ bp_UW := bp_uw 531 (by decide +kernel) (by decide +kernel)
theorem uw_43 : Cond.initialized "java/lang/Integer" ∈ bp_UW := bp_uw 43 (by decide +kernel) (by decide +kernel)
theorem uw_452 : Cond.static ⟨"java/lang/Integer", "bitCount", "(I)I"⟩ ∈ bp_UW := bp_uw 452 (by decide +kernel) (by decide +kernel)
theorem ml_X0_52 : bp_MS RX0 52 mJ6_bitCount_0f7a4 1 := ⟨⟨uw_531, uw_43, cw_J6_bitCount_0f7a4, ⟨by decide, by decide⟩, by decide +kernel⟩, uw_452⟩
theorem uw_532 : Cond.methodLink "Boreplan$Job" 58 ⟨"java/lang/Math", "max", "(II)I"⟩ ∈ bp_UW := bp_uw 532 (by decide +kernel) (by decide +kernel)
theorem ml_X0_58 : Cond.methodLink "Boreplan$Job" 58 ⟨"java/lang/Math", "max", "(II)I"⟩ ∈ bp_UW := uw_532
theorem uw_208 : Cond.methodLink "Boreplan$Machine" 3 ⟨"java/lang/Object", "<init>", "()V"⟩ ∈ bp_UW := bp_uw 208 (by decide +kernel) (by decide +kernel)
theorem ml_X1_3 : Cond.methodLink "Boreplan$Machine" 3 ⟨"java/lang/Object", "<init>", "()V"⟩ ∈ bp_UW := uw_208
theorem uw_209 : Cond.classLink "Boreplan$Machine" 9 "java/util/ArrayList" ∈ bp_UW := bp_uw 209 (by decide +kernel) (by decide +kernel)
theorem nw_X1_9 : bp_NW RX1 9 7 3 tyJx4a65c := ⟨RJx4a65c, TJx4a65c, rfl, uc_Jx4a65c, tyJx4a65c_ok, uw_209, uw_60, uw_27⟩
theorem uw_210 : Cond.methodLink "Boreplan$Machine" 11 ⟨"java/util/ArrayList", "<init>", "()V"⟩ ∈ bp_UW := bp_uw 210 (by decide +kernel) (by decide +kernel)
theorem ml_X1_11 : bp_MI RX1 11 mJx4a65c_init_da8c8 0 := ⟨⟨uw_210, uw_27, cw_Jx4a65c_init_da8c8, ⟨by decide, by decide⟩, by decide +kernel⟩, rfl, rfl, rfl, uw_62⟩
theorem uw_211 : Cond.fieldLink "Boreplan$Machine" 12 "Boreplan$Machine" "row" "Ljava/util/ArrayList;" ∈ bp_UW := bp_uw 211 (by decide +kernel) (by decide +kernel)
theorem fl_X1_12 : bp_FL RX1 12 1 0 (.object "java/util/ArrayList") (some true) := ⟨RX1, TX1, 7, "Boreplan$Machine", tyX1, rfl, by decide, uc_X1, tyX1_ok, nmX1, uw_211, Or.inl rfl, rfl, (fun h => by cases h), (fun _ => ⟨rfl, rfl⟩)⟩
theorem uw_215 : Cond.fieldLink "Boreplan$Machine" 18 "Boreplan$Machine" "capacity" "I" ∈ bp_UW := bp_uw 215 (by decide +kernel) (by decide +kernel)
theorem fl_X1_18 : bp_FL RX1 18 1 1 (.int) (some false) := ⟨RX1, TX1, 7, "Boreplan$Machine", tyX1, rfl, by decide, uc_X1, tyX1_ok, nmX1, uw_215, Or.inl rfl, rfl, (fun _ => rfl), (fun h => by cases h)⟩
theorem uw_557 : Cond.methodLink "Boreplan$Machine" 22 ⟨"java/util/ArrayList", "add", "(ILjava/lang/Object;)V"⟩ ∈ bp_UW := bp_uw 557 (by decide +kernel) (by decide +kernel)
theorem uw_558 : Cond.instanceMethod ⟨"java/util/ArrayList", "add", "(ILjava/lang/Object;)V"⟩ ∈ bp_UW := bp_uw 558 (by decide +kernel) (by decide +kernel)
theorem uw_559 : Cond.selects "java/util/ArrayList" ⟨"java/util/ArrayList", "add", "(ILjava/lang/Object;)V"⟩ ⟨"java/util/ArrayList", "add", "(ILjava/lang/Object;)V"⟩ ∈ bp_UW := bp_uw 559 (by decide +kernel) (by decide +kernel)
theorem ml_X1_22 : bp_MV RX1 22 mJx4a65c_add_7a177 2 RJx4a65c := ⟨⟨uw_557, uw_27, cw_Jx4a65c_add_7a177, ⟨by decide, by decide⟩, by decide +kernel⟩, rfl, uw_558, uw_559⟩
theorem uw_566 : Cond.methodLink "Boreplan$Machine" 26 ⟨"Boreplan$Machine", "link", "()V"⟩ ∈ bp_UW := bp_uw 566 (by decide +kernel) (by decide +kernel)
theorem uw_33 : Cond.initialized "Boreplan$Machine" ∈ bp_UW := bp_uw 33 (by decide +kernel) (by decide +kernel)
theorem uw_568 : Cond.instanceMethod ⟨"Boreplan$Machine", "link", "()V"⟩ ∈ bp_UW := bp_uw 568 (by decide +kernel) (by decide +kernel)
theorem uw_12 : Cond.selects "Boreplan$Machine" ⟨"Boreplan$Machine", "link", "()V"⟩ ⟨"Boreplan$Machine", "link", "()V"⟩ ∈ bp_UW := bp_uw 12 (by decide +kernel) (by decide +kernel)
theorem ml_X1_26 : bp_MV RX1 26 mX1_link 0 RX1 := ⟨⟨uw_566, uw_33, cw_X1_link, ⟨by decide, by decide⟩, by decide +kernel⟩, rfl, uw_568, uw_12⟩
theorem uw_588 : Cond.methodLink "Boreplan$Machine" 29 ⟨"java/util/ArrayList", "remove", "(I)Ljava/lang/Object;"⟩ ∈ bp_UW := bp_uw 588 (by decide +kernel) (by decide +kernel)
theorem uw_589 : Cond.instanceMethod ⟨"java/util/ArrayList", "remove", "(I)Ljava/lang/Object;"⟩ ∈ bp_UW := bp_uw 589 (by decide +kernel) (by decide +kernel)
theorem uw_590 : Cond.selects "java/util/ArrayList" ⟨"java/util/ArrayList", "remove", "(I)Ljava/lang/Object;"⟩ ⟨"java/util/ArrayList", "remove", "(I)Ljava/lang/Object;"⟩ ∈ bp_UW := bp_uw 590 (by decide +kernel) (by decide +kernel)
theorem ml_X1_29 : bp_MV RX1 29 mJx4a65c_remove_915e3 1 RJx4a65c := ⟨⟨uw_588, uw_27, cw_Jx4a65c_remove_915e3, ⟨by decide, by decide⟩, by decide +kernel⟩, rfl, uw_589, uw_590⟩
theorem uw_570 : Cond.methodLink "Boreplan$Machine" 33 ⟨"java/util/ArrayList", "size", "()I"⟩ ∈ bp_UW := bp_uw 570 (by decide +kernel) (by decide +kernel)
theorem ml_X1_33 : bp_MV RX1 33 mJx4a65c_size_8abf5 0 RJx4a65c := ⟨⟨uw_570, uw_27, cw_Jx4a65c_size_8abf5, ⟨by decide, by decide⟩, by decide +kernel⟩, rfl, uw_132, uw_133⟩
theorem uw_571 : Cond.methodLink "Boreplan$Machine" 37 ⟨"java/util/ArrayList", "get", "(I)Ljava/lang/Object;"⟩ ∈ bp_UW := bp_uw 571 (by decide +kernel) (by decide +kernel)
theorem ml_X1_37 : bp_MV RX1 37 mJx4a65c_get_915e3 1 RJx4a65c := ⟨⟨uw_571, uw_27, cw_Jx4a65c_get_915e3, ⟨by decide, by decide⟩, by decide +kernel⟩, rfl, uw_323, uw_324⟩
theorem uw_572 : Cond.classLink "Boreplan$Machine" 40 "Boreplan$Operation" ∈ bp_UW := bp_uw 572 (by decide +kernel) (by decide +kernel)
theorem cl_X1_40 : Cond.classLink "Boreplan$Machine" 40 "Boreplan$Operation" ∈ bp_UW := uw_572
theorem uw_470 : Cond.fieldLink "Boreplan$Machine" 42 "Boreplan$Operation" "job" "LBoreplan$Job;" ∈ bp_UW := bp_uw 470 (by decide +kernel) (by decide +kernel)
theorem fl_X1_42 : bp_FL RX1 42 2 0 (.object "Boreplan$Job") (none) := ⟨RX2, TX2, 14, "Boreplan$Operation", tyX2, rfl, by decide, uc_X2, tyX2_ok, nmX2, uw_470, Or.inl rfl, rfl, (fun h => by cases h), (fun h => by cases h)⟩
theorem uw_489 : Cond.fieldLink "Boreplan$Machine" 50 "Boreplan$Operation" "aheadOnMachine" "LBoreplan$Operation;" ∈ bp_UW := bp_uw 489 (by decide +kernel) (by decide +kernel)
theorem fl_X1_50 : bp_FL RX1 50 2 8 (.object "Boreplan$Operation") (some false) := ⟨RX2, TX2, 14, "Boreplan$Operation", tyX2, rfl, by decide, uc_X2, tyX2_ok, nmX2, uw_489, Or.inl rfl, rfl, (fun _ => rfl), (fun h => by cases h)⟩
theorem uw_490 : Cond.fieldLink "Boreplan$Machine" 54 "Boreplan$Operation" "behindOnMachine" "LBoreplan$Operation;" ∈ bp_UW := bp_uw 490 (by decide +kernel) (by decide +kernel)
theorem fl_X1_54 : bp_FL RX1 54 2 9 (.object "Boreplan$Operation") (some false) := ⟨RX2, TX2, 14, "Boreplan$Operation", tyX2, rfl, by decide, uc_X2, tyX2_ok, nmX2, uw_490, Or.inl rfl, rfl, (fun _ => rfl), (fun h => by cases h)⟩
theorem uw_220 : Cond.fieldLink "Boreplan$Machine" 57 "Boreplan$Machine" "broken" "Z" ∈ bp_UW := bp_uw 220 (by decide +kernel) (by decide +kernel)
theorem fl_X1_57 : bp_FL RX1 57 1 3 (.boolean) (some false) := ⟨RX1, TX1, 7, "Boreplan$Machine", tyX1, rfl, by decide, uc_X1, tyX1_ok, nmX1, uw_220, Or.inl rfl, rfl, (fun _ => rfl), (fun h => by cases h)⟩
theorem uw_224 : Cond.fieldLink "Boreplan$Machine" 61 "Boreplan$Machine" "brokenTo" "I" ∈ bp_UW := bp_uw 224 (by decide +kernel) (by decide +kernel)
theorem fl_X1_61 : bp_FL RX1 61 1 5 (.int) (some false) := ⟨RX1, TX1, 7, "Boreplan$Machine", tyX1, rfl, by decide, uc_X1, tyX1_ok, nmX1, uw_224, Or.inl rfl, rfl, (fun _ => rfl), (fun h => by cases h)⟩
theorem uw_222 : Cond.fieldLink "Boreplan$Machine" 64 "Boreplan$Machine" "brokenFrom" "I" ∈ bp_UW := bp_uw 222 (by decide +kernel) (by decide +kernel)
theorem fl_X1_64 : bp_FL RX1 64 1 4 (.int) (some false) := ⟨RX1, TX1, 7, "Boreplan$Machine", tyX1, rfl, by decide, uc_X1, tyX1_ok, nmX1, uw_222, Or.inl rfl, rfl, (fun _ => rfl), (fun h => by cases h)⟩
theorem uw_393 : Cond.methodLink "Boreplan$Machine" 67 ⟨"Boreplan$Machine", "isBrokenDuring", "(II)Z"⟩ ∈ bp_UW := bp_uw 393 (by decide +kernel) (by decide +kernel)
theorem uw_395 : Cond.instanceMethod ⟨"Boreplan$Machine", "isBrokenDuring", "(II)Z"⟩ ∈ bp_UW := bp_uw 395 (by decide +kernel) (by decide +kernel)
theorem uw_8 : Cond.selects "Boreplan$Machine" ⟨"Boreplan$Machine", "isBrokenDuring", "(II)Z"⟩ ⟨"Boreplan$Machine", "isBrokenDuring", "(II)Z"⟩ ∈ bp_UW := bp_uw 8 (by decide +kernel) (by decide +kernel)
theorem ml_X1_67 : bp_MV RX1 67 mX1_isBrokenDuring 2 RX1 := ⟨⟨uw_393, uw_33, cw_X1_isBrokenDuring, ⟨by decide, by decide⟩, by decide +kernel⟩, rfl, uw_395, uw_8⟩
theorem uw_482 : Cond.fieldLink "Boreplan$Machine" 71 "Boreplan$Operation" "tools" "I" ∈ bp_UW := bp_uw 482 (by decide +kernel) (by decide +kernel)
theorem fl_X1_71 : bp_FL RX1 71 2 5 (.int) (none) := ⟨RX2, TX2, 14, "Boreplan$Operation", tyX2, rfl, by decide, uc_X2, tyX2_ok, nmX2, uw_482, Or.inl rfl, rfl, (fun h => by cases h), (fun h => by cases h)⟩
theorem uw_717 : Cond.methodLink "Boreplan$Machine" 74 ⟨"java/lang/Integer", "bitCount", "(I)I"⟩ ∈ bp_UW := bp_uw 717 (by decide +kernel) (by decide +kernel)
theorem ml_X1_74 : bp_MS RX1 74 mJ6_bitCount_0f7a4 1 := ⟨⟨uw_717, uw_43, cw_J6_bitCount_0f7a4, ⟨by decide, by decide⟩, by decide +kernel⟩, uw_452⟩
theorem uw_718 : Cond.methodLink "Boreplan$Machine" 80 ⟨"Boreplan$Machine", "neededLast", "(II)I"⟩ ∈ bp_UW := bp_uw 718 (by decide +kernel) (by decide +kernel)
theorem uw_720 : Cond.instanceMethod ⟨"Boreplan$Machine", "neededLast", "(II)I"⟩ ∈ bp_UW := bp_uw 720 (by decide +kernel) (by decide +kernel)
theorem uw_21 : Cond.selects "Boreplan$Machine" ⟨"Boreplan$Machine", "neededLast", "(II)I"⟩ ⟨"Boreplan$Machine", "neededLast", "(II)I"⟩ ∈ bp_UW := bp_uw 21 (by decide +kernel) (by decide +kernel)
theorem ml_X1_80 : bp_MV RX1 80 mX1_neededLast 2 RX1 := ⟨⟨uw_718, uw_33, cw_X1_neededLast, ⟨by decide, by decide⟩, by decide +kernel⟩, rfl, uw_720, uw_21⟩
theorem uw_468 : Cond.methodLink "Boreplan$Operation" 1 ⟨"java/lang/Object", "<init>", "()V"⟩ ∈ bp_UW := bp_uw 468 (by decide +kernel) (by decide +kernel)
theorem ml_X2_1 : Cond.methodLink "Boreplan$Operation" 1 ⟨"java/lang/Object", "<init>", "()V"⟩ ∈ bp_UW := uw_468
theorem uw_469 : Cond.fieldLink "Boreplan$Operation" 7 "Boreplan$Operation" "job" "LBoreplan$Job;" ∈ bp_UW := bp_uw 469 (by decide +kernel) (by decide +kernel)
theorem fl_X2_7 : bp_FL RX2 7 2 0 (.object "Boreplan$Job") (some true) := ⟨RX2, TX2, 14, "Boreplan$Operation", tyX2, rfl, by decide, uc_X2, tyX2_ok, nmX2, uw_469, Or.inl rfl, rfl, (fun h => by cases h), (fun _ => ⟨rfl, rfl⟩)⟩
theorem uw_472 : Cond.fieldLink "Boreplan$Operation" 13 "Boreplan$Operation" "number" "I" ∈ bp_UW := bp_uw 472 (by decide +kernel) (by decide +kernel)
theorem fl_X2_13 : bp_FL RX2 13 2 1 (.int) (some true) := ⟨RX2, TX2, 14, "Boreplan$Operation", tyX2, rfl, by decide, uc_X2, tyX2_ok, nmX2, uw_472, Or.inl rfl, rfl, (fun h => by cases h), (fun _ => ⟨rfl, rfl⟩)⟩
theorem uw_474 : Cond.fieldLink "Boreplan$Operation" 17 "Boreplan$Operation" "machine" "LBoreplan$Machine;" ∈ bp_UW := bp_uw 474 (by decide +kernel) (by decide +kernel)
theorem fl_X2_17 : bp_FL RX2 17 2 2 (.object "Boreplan$Machine") (some true) := ⟨RX2, TX2, 14, "Boreplan$Operation", tyX2, rfl, by decide, uc_X2, tyX2_ok, nmX2, uw_474, Or.inl rfl, rfl, (fun h => by cases h), (fun _ => ⟨rfl, rfl⟩)⟩
theorem uw_477 : Cond.fieldLink "Boreplan$Operation" 21 "Boreplan$Operation" "length" "I" ∈ bp_UW := bp_uw 477 (by decide +kernel) (by decide +kernel)
theorem fl_X2_21 : bp_FL RX2 21 2 3 (.int) (some true) := ⟨RX2, TX2, 14, "Boreplan$Operation", tyX2, rfl, by decide, uc_X2, tyX2_ok, nmX2, uw_477, Or.inl rfl, rfl, (fun h => by cases h), (fun _ => ⟨rfl, rfl⟩)⟩
theorem uw_479 : Cond.fieldLink "Boreplan$Operation" 24 "Boreplan$Operation" "family" "I" ∈ bp_UW := bp_uw 479 (by decide +kernel) (by decide +kernel)
theorem fl_X2_24 : bp_FL RX2 24 2 4 (.int) (some true) := ⟨RX2, TX2, 14, "Boreplan$Operation", tyX2, rfl, by decide, uc_X2, tyX2_ok, nmX2, uw_479, Or.inl rfl, rfl, (fun h => by cases h), (fun _ => ⟨rfl, rfl⟩)⟩
theorem uw_481 : Cond.fieldLink "Boreplan$Operation" 27 "Boreplan$Operation" "tools" "I" ∈ bp_UW := bp_uw 481 (by decide +kernel) (by decide +kernel)
theorem fl_X2_27 : bp_FL RX2 27 2 5 (.int) (some true) := ⟨RX2, TX2, 14, "Boreplan$Operation", tyX2, rfl, by decide, uc_X2, tyX2_ok, nmX2, uw_481, Or.inl rfl, rfl, (fun h => by cases h), (fun _ => ⟨rfl, rfl⟩)⟩
theorem uw_417 : Cond.fieldLink "Boreplan$Operation" 30 "Boreplan$Job" "number" "I" ∈ bp_UW := bp_uw 417 (by decide +kernel) (by decide +kernel)
theorem fl_X2_30 : bp_FL RX2 30 0 0 (.int) (none) := ⟨RX0, TX0, 5, "Boreplan$Job", tyX0, rfl, by decide, uc_X0, tyX0_ok, nmX0, uw_417, Or.inl rfl, rfl, (fun h => by cases h), (fun h => by cases h)⟩
theorem uw_90 : Cond.methodLink "Boreplan$Setups" 3 ⟨"java/lang/Object", "<init>", "()V"⟩ ∈ bp_UW := bp_uw 90 (by decide +kernel) (by decide +kernel)
theorem ml_X3_3 : Cond.methodLink "Boreplan$Setups" 3 ⟨"java/lang/Object", "<init>", "()V"⟩ ∈ bp_UW := uw_90
theorem uw_91 : Cond.classLink "Boreplan$Setups" 9 "[[I" ∈ bp_UW := bp_uw 91 (by decide +kernel) (by decide +kernel)
theorem cl_X3_9 : Cond.classLink "Boreplan$Setups" 9 "[[I" ∈ bp_UW := uw_91
theorem uw_93 : Cond.fieldLink "Boreplan$Setups" 11 "Boreplan$Setups" "minutes" "[[I" ∈ bp_UW := bp_uw 93 (by decide +kernel) (by decide +kernel)
theorem fl_X3_11 : bp_FL RX3 11 3 0 (.array (.array .int)) (some true) := ⟨RX3, TX3, 1, "Boreplan$Setups", tyX3, rfl, by decide, uc_X3, tyX3_ok, nmX3, uw_93, Or.inl rfl, rfl, (fun h => by cases h), (fun _ => ⟨rfl, rfl⟩)⟩
theorem uw_480 : Cond.fieldLink "Boreplan$Setups" 16 "Boreplan$Operation" "family" "I" ∈ bp_UW := bp_uw 480 (by decide +kernel) (by decide +kernel)
theorem fl_X3_16 : bp_FL RX3 16 2 4 (.int) (none) := ⟨RX2, TX2, 14, "Boreplan$Operation", tyX2, rfl, by decide, uc_X2, tyX2_ok, nmX2, uw_480, Or.inl rfl, rfl, (fun h => by cases h), (fun h => by cases h)⟩
theorem uw_213 : Cond.fieldLink "Boreplan$Setups" 22 "Boreplan$Machine" "row" "Ljava/util/ArrayList;" ∈ bp_UW := bp_uw 213 (by decide +kernel) (by decide +kernel)
theorem fl_X3_22 : bp_FL RX3 22 1 0 (.object "java/util/ArrayList") (none) := ⟨RX1, TX1, 7, "Boreplan$Machine", tyX1, rfl, by decide, uc_X1, tyX1_ok, nmX1, uw_213, Or.inl rfl, rfl, (fun h => by cases h), (fun h => by cases h)⟩
theorem uw_730 : Cond.methodLink "Boreplan$Setups" 28 ⟨"java/util/ArrayList", "size", "()I"⟩ ∈ bp_UW := bp_uw 730 (by decide +kernel) (by decide +kernel)
theorem ml_X3_28 : bp_MV RX3 28 mJx4a65c_size_8abf5 0 RJx4a65c := ⟨⟨uw_730, uw_27, cw_Jx4a65c_size_8abf5, ⟨by decide, by decide⟩, by decide +kernel⟩, rfl, uw_132, uw_133⟩
theorem uw_731 : Cond.methodLink "Boreplan$Setups" 34 ⟨"java/util/ArrayList", "get", "(I)Ljava/lang/Object;"⟩ ∈ bp_UW := bp_uw 731 (by decide +kernel) (by decide +kernel)
theorem ml_X3_34 : bp_MV RX3 34 mJx4a65c_get_915e3 1 RJx4a65c := ⟨⟨uw_731, uw_27, cw_Jx4a65c_get_915e3, ⟨by decide, by decide⟩, by decide +kernel⟩, rfl, uw_323, uw_324⟩
theorem uw_732 : Cond.classLink "Boreplan$Setups" 17 "Boreplan$Operation" ∈ bp_UW := bp_uw 732 (by decide +kernel) (by decide +kernel)
theorem cl_X3_17 : Cond.classLink "Boreplan$Setups" 17 "Boreplan$Operation" ∈ bp_UW := uw_732
theorem uw_487 : Cond.fieldLink "Boreplan$Setups" 38 "Boreplan$Operation" "aheadOnMachine" "LBoreplan$Operation;" ∈ bp_UW := bp_uw 487 (by decide +kernel) (by decide +kernel)
theorem fl_X3_38 : bp_FL RX3 38 2 8 (.object "Boreplan$Operation") (some false) := ⟨RX2, TX2, 14, "Boreplan$Operation", tyX2, rfl, by decide, uc_X2, tyX2_ok, nmX2, uw_487, Or.inl rfl, rfl, (fun _ => rfl), (fun h => by cases h)⟩
theorem uw_733 : Cond.methodLink "Boreplan$Setups" 42 ⟨"Boreplan$Setups", "between", "(LBoreplan$Operation;LBoreplan$Operation;)I"⟩ ∈ bp_UW := bp_uw 733 (by decide +kernel) (by decide +kernel)
theorem uw_28 : Cond.initialized "Boreplan$Setups" ∈ bp_UW := bp_uw 28 (by decide +kernel) (by decide +kernel)
theorem uw_385 : Cond.instanceMethod ⟨"Boreplan$Setups", "between", "(LBoreplan$Operation;LBoreplan$Operation;)I"⟩ ∈ bp_UW := bp_uw 385 (by decide +kernel) (by decide +kernel)
theorem uw_386 : Cond.selects "Boreplan$Setups" ⟨"Boreplan$Setups", "between", "(LBoreplan$Operation;LBoreplan$Operation;)I"⟩ ⟨"Boreplan$Setups", "between", "(LBoreplan$Operation;LBoreplan$Operation;)I"⟩ ∈ bp_UW := bp_uw 386 (by decide +kernel) (by decide +kernel)
theorem ml_X3_42 : bp_MV RX3 42 mX3_between 2 RX3 := ⟨⟨uw_733, uw_28, cw_X3_between, ⟨by decide, by decide⟩, by decide +kernel⟩, rfl, uw_385, uw_386⟩
theorem uw_58 : Cond.methodLink "Boreplan$Shop" 3 ⟨"java/lang/Object", "<init>", "()V"⟩ ∈ bp_UW := bp_uw 58 (by decide +kernel) (by decide +kernel)
theorem ml_X4_3 : Cond.methodLink "Boreplan$Shop" 3 ⟨"java/lang/Object", "<init>", "()V"⟩ ∈ bp_UW := uw_58
theorem uw_59 : Cond.classLink "Boreplan$Shop" 9 "java/util/ArrayList" ∈ bp_UW := bp_uw 59 (by decide +kernel) (by decide +kernel)
theorem nw_X4_9 : bp_NW RX4 9 7 3 tyJx4a65c := ⟨RJx4a65c, TJx4a65c, rfl, uc_Jx4a65c, tyJx4a65c_ok, uw_59, uw_60, uw_27⟩
theorem uw_61 : Cond.methodLink "Boreplan$Shop" 11 ⟨"java/util/ArrayList", "<init>", "()V"⟩ ∈ bp_UW := bp_uw 61 (by decide +kernel) (by decide +kernel)
theorem ml_X4_11 : bp_MI RX4 11 mJx4a65c_init_da8c8 0 := ⟨⟨uw_61, uw_27, cw_Jx4a65c_init_da8c8, ⟨by decide, by decide⟩, by decide +kernel⟩, rfl, rfl, rfl, uw_62⟩
theorem uw_99 : Cond.fieldLink "Boreplan$Shop" 12 "Boreplan$Shop" "machines" "Ljava/util/ArrayList;" ∈ bp_UW := bp_uw 99 (by decide +kernel) (by decide +kernel)
theorem fl_X4_12 : bp_FL RX4 12 4 0 (.object "java/util/ArrayList") (some true) := ⟨RX4, TX4, 6, "Boreplan$Shop", tyX4, rfl, by decide, uc_X4, tyX4_ok, nmX4, uw_99, Or.inl rfl, rfl, (fun h => by cases h), (fun _ => ⟨rfl, rfl⟩)⟩
theorem uw_101 : Cond.fieldLink "Boreplan$Shop" 18 "Boreplan$Shop" "jobs" "Ljava/util/ArrayList;" ∈ bp_UW := bp_uw 101 (by decide +kernel) (by decide +kernel)
theorem fl_X4_18 : bp_FL RX4 18 4 1 (.object "java/util/ArrayList") (some true) := ⟨RX4, TX4, 6, "Boreplan$Shop", tyX4, rfl, by decide, uc_X4, tyX4_ok, nmX4, uw_101, Or.inl rfl, rfl, (fun h => by cases h), (fun _ => ⟨rfl, rfl⟩)⟩
theorem uw_85 : Cond.classLink "Boreplan$Shop" 21 "Boreplan$Setups" ∈ bp_UW := bp_uw 85 (by decide +kernel) (by decide +kernel)
theorem uw_86 : Cond.instantiable "Boreplan$Setups" 1 ∈ bp_UW := bp_uw 86 (by decide +kernel) (by decide +kernel)
theorem nw_X4_21 : bp_NW RX4 21 3 1 tyX3 := ⟨RX3, TX3, rfl, uc_X3, tyX3_ok, uw_85, uw_86, uw_28⟩
theorem uw_87 : Cond.methodLink "Boreplan$Shop" 23 ⟨"Boreplan$Setups", "<init>", "()V"⟩ ∈ bp_UW := bp_uw 87 (by decide +kernel) (by decide +kernel)
theorem uw_88 : Cond.instanceMethod ⟨"Boreplan$Setups", "<init>", "()V"⟩ ∈ bp_UW := bp_uw 88 (by decide +kernel) (by decide +kernel)
theorem ml_X4_23 : bp_MI RX4 23 mX3_init 0 := ⟨⟨uw_87, uw_28, cw_X3_init, ⟨by decide, by decide⟩, by decide +kernel⟩, rfl, rfl, rfl, uw_88⟩
theorem uw_103 : Cond.fieldLink "Boreplan$Shop" 24 "Boreplan$Shop" "table" "LBoreplan$Setups;" ∈ bp_UW := bp_uw 103 (by decide +kernel) (by decide +kernel)
theorem fl_X4_24 : bp_FL RX4 24 4 2 (.object "Boreplan$Setups") (some true) := ⟨RX4, TX4, 6, "Boreplan$Shop", tyX4, rfl, by decide, uc_X4, tyX4_ok, nmX4, uw_103, Or.inl rfl, rfl, (fun h => by cases h), (fun _ => ⟨rfl, rfl⟩)⟩
theorem uw_105 : Cond.fieldLink "Boreplan$Shop" 28 "Boreplan$Shop" "order" "Ljava/util/ArrayList;" ∈ bp_UW := bp_uw 105 (by decide +kernel) (by decide +kernel)
theorem fl_X4_28 : bp_FL RX4 28 4 3 (.object "java/util/ArrayList") (some true) := ⟨RX4, TX4, 6, "Boreplan$Shop", tyX4, rfl, by decide, uc_X4, tyX4_ok, nmX4, uw_105, Or.inl rfl, rfl, (fun h => by cases h), (fun _ => ⟨rfl, rfl⟩)⟩
theorem uw_106 : Cond.fieldLink "Boreplan$Shop" 31 "Boreplan$Shop" "path" "Ljava/util/ArrayList;" ∈ bp_UW := bp_uw 106 (by decide +kernel) (by decide +kernel)
theorem fl_X4_31 : bp_FL RX4 31 4 4 (.object "java/util/ArrayList") (some true) := ⟨RX4, TX4, 6, "Boreplan$Shop", tyX4, rfl, by decide, uc_X4, tyX4_ok, nmX4, uw_106, Or.inl rfl, rfl, (fun h => by cases h), (fun _ => ⟨rfl, rfl⟩)⟩
theorem uw_475 : Cond.fieldLink "Boreplan$Shop" 34 "Boreplan$Operation" "machine" "LBoreplan$Machine;" ∈ bp_UW := bp_uw 475 (by decide +kernel) (by decide +kernel)
theorem fl_X4_34 : bp_FL RX4 34 2 2 (.object "Boreplan$Machine") (none) := ⟨RX2, TX2, 14, "Boreplan$Operation", tyX2, rfl, by decide, uc_X2, tyX2_ok, nmX2, uw_475, Or.inl rfl, rfl, (fun h => by cases h), (fun h => by cases h)⟩
theorem uw_212 : Cond.fieldLink "Boreplan$Shop" 40 "Boreplan$Machine" "row" "Ljava/util/ArrayList;" ∈ bp_UW := bp_uw 212 (by decide +kernel) (by decide +kernel)
theorem fl_X4_40 : bp_FL RX4 40 1 0 (.object "java/util/ArrayList") (none) := ⟨RX1, TX1, 7, "Boreplan$Machine", tyX1, rfl, by decide, uc_X1, tyX1_ok, nmX1, uw_212, Or.inl rfl, rfl, (fun h => by cases h), (fun h => by cases h)⟩
theorem uw_371 : Cond.methodLink "Boreplan$Shop" 45 ⟨"java/util/ArrayList", "size", "()I"⟩ ∈ bp_UW := bp_uw 371 (by decide +kernel) (by decide +kernel)
theorem ml_X4_45 : bp_MV RX4 45 mJx4a65c_size_8abf5 0 RJx4a65c := ⟨⟨uw_371, uw_27, cw_Jx4a65c_size_8abf5, ⟨by decide, by decide⟩, by decide +kernel⟩, rfl, uw_132, uw_133⟩
theorem uw_581 : Cond.constant "Boreplan$Shop" 49 (1000000 : Int32) ∈ bp_UW := bp_uw 581 (by decide +kernel) (by decide +kernel)
theorem kc_X4_49 : Cond.constant "Boreplan$Shop" 49 (1000000 : Int32) ∈ bp_UW := uw_581
theorem uw_582 : Cond.methodLink "Boreplan$Shop" 50 ⟨"Boreplan$Machine", "insert", "(LBoreplan$Operation;I)V"⟩ ∈ bp_UW := bp_uw 582 (by decide +kernel) (by decide +kernel)
theorem uw_554 : Cond.instanceMethod ⟨"Boreplan$Machine", "insert", "(LBoreplan$Operation;I)V"⟩ ∈ bp_UW := bp_uw 554 (by decide +kernel) (by decide +kernel)
theorem uw_555 : Cond.selects "Boreplan$Machine" ⟨"Boreplan$Machine", "insert", "(LBoreplan$Operation;I)V"⟩ ⟨"Boreplan$Machine", "insert", "(LBoreplan$Operation;I)V"⟩ ∈ bp_UW := bp_uw 555 (by decide +kernel) (by decide +kernel)
theorem ml_X4_50 : bp_MV RX4 50 mX1_insert 2 RX1 := ⟨⟨uw_582, uw_33, cw_X1_insert, ⟨by decide, by decide⟩, by decide +kernel⟩, rfl, uw_554, uw_555⟩
theorem uw_583 : Cond.methodLink "Boreplan$Shop" 54 ⟨"Boreplan$Shop", "timeAll", "()Z"⟩ ∈ bp_UW := bp_uw 583 (by decide +kernel) (by decide +kernel)
theorem uw_24 : Cond.initialized "Boreplan$Shop" ∈ bp_UW := bp_uw 24 (by decide +kernel) (by decide +kernel)
theorem uw_360 : Cond.instanceMethod ⟨"Boreplan$Shop", "timeAll", "()Z"⟩ ∈ bp_UW := bp_uw 360 (by decide +kernel) (by decide +kernel)
theorem uw_361 : Cond.selects "Boreplan$Shop" ⟨"Boreplan$Shop", "timeAll", "()Z"⟩ ⟨"Boreplan$Shop", "timeAll", "()Z"⟩ ∈ bp_UW := bp_uw 361 (by decide +kernel) (by decide +kernel)
theorem ml_X4_54 : bp_MV RX4 54 mX4_timeAll 0 RX4 := ⟨⟨uw_583, uw_24, cw_X4_timeAll, ⟨by decide, by decide⟩, by decide +kernel⟩, rfl, uw_360, uw_361⟩
theorem uw_108 : Cond.fieldLink "Boreplan$Shop" 58 "Boreplan$Shop" "span" "I" ∈ bp_UW := bp_uw 108 (by decide +kernel) (by decide +kernel)
theorem fl_X4_58 : bp_FL RX4 58 4 5 (.int) (some false) := ⟨RX4, TX4, 6, "Boreplan$Shop", tyX4, rfl, by decide, uc_X4, tyX4_ok, nmX4, uw_108, Or.inl rfl, rfl, (fun _ => rfl), (fun h => by cases h)⟩
theorem uw_492 : Cond.fieldLink "Boreplan$Shop" 62 "Boreplan$Operation" "start" "I" ∈ bp_UW := bp_uw 492 (by decide +kernel) (by decide +kernel)
theorem fl_X4_62 : bp_FL RX4 62 2 10 (.int) (some false) := ⟨RX2, TX2, 14, "Boreplan$Operation", tyX2, rfl, by decide, uc_X2, tyX2_ok, nmX2, uw_492, Or.inl rfl, rfl, (fun _ => rfl), (fun h => by cases h)⟩
theorem uw_584 : Cond.methodLink "Boreplan$Shop" 65 ⟨"Boreplan$Machine", "takeOut", "(I)V"⟩ ∈ bp_UW := bp_uw 584 (by decide +kernel) (by decide +kernel)
theorem uw_585 : Cond.instanceMethod ⟨"Boreplan$Machine", "takeOut", "(I)V"⟩ ∈ bp_UW := bp_uw 585 (by decide +kernel) (by decide +kernel)
theorem uw_586 : Cond.selects "Boreplan$Machine" ⟨"Boreplan$Machine", "takeOut", "(I)V"⟩ ⟨"Boreplan$Machine", "takeOut", "(I)V"⟩ ∈ bp_UW := bp_uw 586 (by decide +kernel) (by decide +kernel)
theorem ml_X4_65 : bp_MV RX4 65 mX1_takeOut 1 RX1 := ⟨⟨uw_584, uw_33, cw_X1_takeOut, ⟨by decide, by decide⟩, by decide +kernel⟩, rfl, uw_585, uw_586⟩
theorem uw_363 : Cond.methodLink "Boreplan$Shop" 69 ⟨"Boreplan$Shop", "begin", "()I"⟩ ∈ bp_UW := bp_uw 363 (by decide +kernel) (by decide +kernel)
theorem uw_365 : Cond.instanceMethod ⟨"Boreplan$Shop", "begin", "()I"⟩ ∈ bp_UW := bp_uw 365 (by decide +kernel) (by decide +kernel)
theorem uw_5 : Cond.selects "Boreplan$Shop" ⟨"Boreplan$Shop", "begin", "()I"⟩ ⟨"Boreplan$Shop", "begin", "()I"⟩ ∈ bp_UW := bp_uw 5 (by decide +kernel) (by decide +kernel)
theorem ml_X4_69 : bp_MV RX4 69 mX4_begin 0 RX4 := ⟨⟨uw_363, uw_24, cw_X4_begin, ⟨by decide, by decide⟩, by decide +kernel⟩, rfl, uw_365, uw_5⟩
theorem uw_372 : Cond.methodLink "Boreplan$Shop" 72 ⟨"java/util/ArrayList", "get", "(I)Ljava/lang/Object;"⟩ ∈ bp_UW := bp_uw 372 (by decide +kernel) (by decide +kernel)
theorem ml_X4_72 : bp_MV RX4 72 mJx4a65c_get_915e3 1 RJx4a65c := ⟨⟨uw_372, uw_27, cw_Jx4a65c_get_915e3, ⟨by decide, by decide⟩, by decide +kernel⟩, rfl, uw_323, uw_324⟩
theorem uw_374 : Cond.classLink "Boreplan$Shop" 41 "Boreplan$Machine" ∈ bp_UW := bp_uw 374 (by decide +kernel) (by decide +kernel)
theorem cl_X4_41 : Cond.classLink "Boreplan$Shop" 41 "Boreplan$Machine" ∈ bp_UW := uw_374
theorem uw_375 : Cond.methodLink "Boreplan$Shop" 76 ⟨"Boreplan$Shop", "timeRow", "(LBoreplan$Machine;)V"⟩ ∈ bp_UW := bp_uw 375 (by decide +kernel) (by decide +kernel)
theorem uw_377 : Cond.instanceMethod ⟨"Boreplan$Shop", "timeRow", "(LBoreplan$Machine;)V"⟩ ∈ bp_UW := bp_uw 377 (by decide +kernel) (by decide +kernel)
theorem uw_6 : Cond.selects "Boreplan$Shop" ⟨"Boreplan$Shop", "timeRow", "(LBoreplan$Machine;)V"⟩ ⟨"Boreplan$Shop", "timeRow", "(LBoreplan$Machine;)V"⟩ ∈ bp_UW := bp_uw 6 (by decide +kernel) (by decide +kernel)
theorem ml_X4_76 : bp_MV RX4 76 mX4_timeRow 1 RX4 := ⟨⟨uw_375, uw_24, cw_X4_timeRow, ⟨by decide, by decide⟩, by decide +kernel⟩, rfl, uw_377, uw_6⟩
theorem uw_367 : Cond.methodLink "Boreplan$Shop" 80 ⟨"java/util/ArrayList", "clear", "()V"⟩ ∈ bp_UW := bp_uw 367 (by decide +kernel) (by decide +kernel)
theorem uw_368 : Cond.instanceMethod ⟨"java/util/ArrayList", "clear", "()V"⟩ ∈ bp_UW := bp_uw 368 (by decide +kernel) (by decide +kernel)
theorem uw_369 : Cond.selects "java/util/ArrayList" ⟨"java/util/ArrayList", "clear", "()V"⟩ ⟨"java/util/ArrayList", "clear", "()V"⟩ ∈ bp_UW := bp_uw 369 (by decide +kernel) (by decide +kernel)
theorem ml_X4_80 : bp_MV RX4 80 mJx4a65c_clear_da8c8 0 RJx4a65c := ⟨⟨uw_367, uw_27, cw_Jx4a65c_clear_da8c8, ⟨by decide, by decide⟩, by decide +kernel⟩, rfl, uw_368, uw_369⟩
theorem uw_373 : Cond.classLink "Boreplan$Shop" 83 "Boreplan$Job" ∈ bp_UW := bp_uw 373 (by decide +kernel) (by decide +kernel)
theorem cl_X4_83 : Cond.classLink "Boreplan$Shop" 83 "Boreplan$Job" ∈ bp_UW := uw_373
theorem uw_425 : Cond.fieldLink "Boreplan$Shop" 85 "Boreplan$Job" "timed" "I" ∈ bp_UW := bp_uw 425 (by decide +kernel) (by decide +kernel)
theorem fl_X4_85 : bp_FL RX4 85 0 4 (.int) (some false) := ⟨RX0, TX0, 5, "Boreplan$Job", tyX0, rfl, by decide, uc_X0, tyX0_ok, nmX0, uw_425, Or.inl rfl, rfl, (fun _ => rfl), (fun h => by cases h)⟩
theorem uw_225 : Cond.fieldLink "Boreplan$Shop" 88 "Boreplan$Machine" "timed" "I" ∈ bp_UW := bp_uw 225 (by decide +kernel) (by decide +kernel)
theorem fl_X4_88 : bp_FL RX4 88 1 6 (.int) (some false) := ⟨RX1, TX1, 7, "Boreplan$Machine", tyX1, rfl, by decide, uc_X1, tyX1_ok, nmX1, uw_225, Or.inl rfl, rfl, (fun _ => rfl), (fun h => by cases h)⟩
theorem uw_379 : Cond.classLink "Boreplan$Shop" 35 "Boreplan$Operation" ∈ bp_UW := bp_uw 379 (by decide +kernel) (by decide +kernel)
theorem cl_X4_35 : Cond.classLink "Boreplan$Shop" 35 "Boreplan$Operation" ∈ bp_UW := uw_379
theorem uw_473 : Cond.fieldLink "Boreplan$Shop" 89 "Boreplan$Operation" "number" "I" ∈ bp_UW := bp_uw 473 (by decide +kernel) (by decide +kernel)
theorem fl_X4_89 : bp_FL RX4 89 2 1 (.int) (none) := ⟨RX2, TX2, 14, "Boreplan$Operation", tyX2, rfl, by decide, uc_X2, tyX2_ok, nmX2, uw_473, Or.inl rfl, rfl, (fun h => by cases h), (fun h => by cases h)⟩
theorem uw_471 : Cond.fieldLink "Boreplan$Shop" 92 "Boreplan$Operation" "job" "LBoreplan$Job;" ∈ bp_UW := bp_uw 471 (by decide +kernel) (by decide +kernel)
theorem fl_X4_92 : bp_FL RX4 92 2 0 (.object "Boreplan$Job") (none) := ⟨RX2, TX2, 14, "Boreplan$Operation", tyX2, rfl, by decide, uc_X2, tyX2_ok, nmX2, uw_471, Or.inl rfl, rfl, (fun h => by cases h), (fun h => by cases h)⟩
theorem uw_380 : Cond.methodLink "Boreplan$Shop" 96 ⟨"Boreplan$Shop", "timeOne", "(LBoreplan$Operation;)V"⟩ ∈ bp_UW := bp_uw 380 (by decide +kernel) (by decide +kernel)
theorem uw_382 : Cond.instanceMethod ⟨"Boreplan$Shop", "timeOne", "(LBoreplan$Operation;)V"⟩ ∈ bp_UW := bp_uw 382 (by decide +kernel) (by decide +kernel)
theorem uw_7 : Cond.selects "Boreplan$Shop" ⟨"Boreplan$Shop", "timeOne", "(LBoreplan$Operation;)V"⟩ ⟨"Boreplan$Shop", "timeOne", "(LBoreplan$Operation;)V"⟩ ∈ bp_UW := bp_uw 7 (by decide +kernel) (by decide +kernel)
theorem ml_X4_96 : bp_MV RX4 96 mX4_timeOne 1 RX4 := ⟨⟨uw_380, uw_24, cw_X4_timeOne, ⟨by decide, by decide⟩, by decide +kernel⟩, rfl, uw_382, uw_7⟩
theorem uw_484 : Cond.fieldLink "Boreplan$Shop" 100 "Boreplan$Operation" "aheadInJob" "LBoreplan$Operation;" ∈ bp_UW := bp_uw 484 (by decide +kernel) (by decide +kernel)
theorem fl_X4_100 : bp_FL RX4 100 2 6 (.object "Boreplan$Operation") (some false) := ⟨RX2, TX2, 14, "Boreplan$Operation", tyX2, rfl, by decide, uc_X2, tyX2_ok, nmX2, uw_484, Or.inl rfl, rfl, (fun _ => rfl), (fun h => by cases h)⟩
theorem uw_488 : Cond.fieldLink "Boreplan$Shop" 104 "Boreplan$Operation" "aheadOnMachine" "LBoreplan$Operation;" ∈ bp_UW := bp_uw 488 (by decide +kernel) (by decide +kernel)
theorem fl_X4_104 : bp_FL RX4 104 2 8 (.object "Boreplan$Operation") (some false) := ⟨RX2, TX2, 14, "Boreplan$Operation", tyX2, rfl, by decide, uc_X2, tyX2_ok, nmX2, uw_488, Or.inl rfl, rfl, (fun _ => rfl), (fun h => by cases h)⟩
theorem uw_494 : Cond.fieldLink "Boreplan$Shop" 107 "Boreplan$Operation" "finish" "I" ∈ bp_UW := bp_uw 494 (by decide +kernel) (by decide +kernel)
theorem fl_X4_107 : bp_FL RX4 107 2 11 (.int) (some false) := ⟨RX2, TX2, 14, "Boreplan$Operation", tyX2, rfl, by decide, uc_X2, tyX2_ok, nmX2, uw_494, Or.inl rfl, rfl, (fun _ => rfl), (fun h => by cases h)⟩
theorem uw_384 : Cond.methodLink "Boreplan$Shop" 110 ⟨"Boreplan$Setups", "between", "(LBoreplan$Operation;LBoreplan$Operation;)I"⟩ ∈ bp_UW := bp_uw 384 (by decide +kernel) (by decide +kernel)
theorem ml_X4_110 : bp_MV RX4 110 mX3_between 2 RX3 := ⟨⟨uw_384, uw_28, cw_X3_between, ⟨by decide, by decide⟩, by decide +kernel⟩, rfl, uw_385, uw_386⟩
theorem uw_388 : Cond.methodLink "Boreplan$Shop" 114 ⟨"java/lang/Math", "max", "(II)I"⟩ ∈ bp_UW := bp_uw 388 (by decide +kernel) (by decide +kernel)
theorem ml_X4_114 : Cond.methodLink "Boreplan$Shop" 114 ⟨"java/lang/Math", "max", "(II)I"⟩ ∈ bp_UW := uw_388
theorem uw_478 : Cond.fieldLink "Boreplan$Shop" 120 "Boreplan$Operation" "length" "I" ∈ bp_UW := bp_uw 478 (by decide +kernel) (by decide +kernel)
theorem fl_X4_120 : bp_FL RX4 120 2 3 (.int) (none) := ⟨RX2, TX2, 14, "Boreplan$Operation", tyX2, rfl, by decide, uc_X2, tyX2_ok, nmX2, uw_478, Or.inl rfl, rfl, (fun h => by cases h), (fun h => by cases h)⟩
theorem uw_389 : Cond.methodLink "Boreplan$Shop" 123 ⟨"Boreplan$Machine", "leastStart", "(II)I"⟩ ∈ bp_UW := bp_uw 389 (by decide +kernel) (by decide +kernel)
theorem uw_390 : Cond.instanceMethod ⟨"Boreplan$Machine", "leastStart", "(II)I"⟩ ∈ bp_UW := bp_uw 390 (by decide +kernel) (by decide +kernel)
theorem uw_391 : Cond.selects "Boreplan$Machine" ⟨"Boreplan$Machine", "leastStart", "(II)I"⟩ ⟨"Boreplan$Machine", "leastStart", "(II)I"⟩ ∈ bp_UW := bp_uw 391 (by decide +kernel) (by decide +kernel)
theorem ml_X4_123 : bp_MV RX4 123 mX1_leastStart 2 RX1 := ⟨⟨uw_389, uw_33, cw_X1_leastStart, ⟨by decide, by decide⟩, by decide +kernel⟩, rfl, uw_390, uw_391⟩
theorem uw_397 : Cond.methodLink "Boreplan$Shop" 126 ⟨"java/util/ArrayList", "add", "(Ljava/lang/Object;)Z"⟩ ∈ bp_UW := bp_uw 397 (by decide +kernel) (by decide +kernel)
theorem ml_X4_126 : bp_MV RX4 126 mJx4a65c_add_9ea2d 1 RJx4a65c := ⟨⟨uw_397, uw_27, cw_Jx4a65c_add_9ea2d, ⟨by decide, by decide⟩, by decide +kernel⟩, rfl, uw_242, uw_243⟩
theorem uw_496 : Cond.fieldLink "Boreplan$Shop" 130 "Boreplan$Operation" "startInRounds" "I" ∈ bp_UW := bp_uw 496 (by decide +kernel) (by decide +kernel)
theorem fl_X4_130 : bp_FL RX4 130 2 12 (.int) (some false) := ⟨RX2, TX2, 14, "Boreplan$Operation", tyX2, rfl, by decide, uc_X2, tyX2_ok, nmX2, uw_496, Or.inl rfl, rfl, (fun _ => rfl), (fun h => by cases h)⟩
theorem uw_653 : Cond.methodLink "Boreplan$Shop" 133 ⟨"Boreplan$Shop", "putRowLater", "(LBoreplan$Machine;)Z"⟩ ∈ bp_UW := bp_uw 653 (by decide +kernel) (by decide +kernel)
theorem uw_655 : Cond.instanceMethod ⟨"Boreplan$Shop", "putRowLater", "(LBoreplan$Machine;)Z"⟩ ∈ bp_UW := bp_uw 655 (by decide +kernel) (by decide +kernel)
theorem uw_16 : Cond.selects "Boreplan$Shop" ⟨"Boreplan$Shop", "putRowLater", "(LBoreplan$Machine;)Z"⟩ ⟨"Boreplan$Shop", "putRowLater", "(LBoreplan$Machine;)Z"⟩ ∈ bp_UW := bp_uw 16 (by decide +kernel) (by decide +kernel)
theorem ml_X4_133 : bp_MV RX4 133 mX4_putRowLater 1 RX4 := ⟨⟨uw_653, uw_24, cw_X4_putRowLater, ⟨by decide, by decide⟩, by decide +kernel⟩, rfl, uw_655, uw_16⟩
theorem uw_657 : Cond.methodLink "Boreplan$Shop" 137 ⟨"Boreplan$Shop", "readyInRounds", "(LBoreplan$Operation;)I"⟩ ∈ bp_UW := bp_uw 657 (by decide +kernel) (by decide +kernel)
theorem uw_659 : Cond.instanceMethod ⟨"Boreplan$Shop", "readyInRounds", "(LBoreplan$Operation;)I"⟩ ∈ bp_UW := bp_uw 659 (by decide +kernel) (by decide +kernel)
theorem uw_17 : Cond.selects "Boreplan$Shop" ⟨"Boreplan$Shop", "readyInRounds", "(LBoreplan$Operation;)I"⟩ ⟨"Boreplan$Shop", "readyInRounds", "(LBoreplan$Operation;)I"⟩ ∈ bp_UW := bp_uw 17 (by decide +kernel) (by decide +kernel)
theorem ml_X4_137 : bp_MV RX4 137 mX4_readyInRounds 1 RX4 := ⟨⟨uw_657, uw_24, cw_X4_readyInRounds, ⟨by decide, by decide⟩, by decide +kernel⟩, rfl, uw_659, uw_17⟩
theorem uw_669 : Cond.methodLink "Boreplan$Shop" 141 ⟨"Boreplan$Shop", "latestFinish", "(LBoreplan$Operation;)I"⟩ ∈ bp_UW := bp_uw 669 (by decide +kernel) (by decide +kernel)
theorem uw_671 : Cond.instanceMethod ⟨"Boreplan$Shop", "latestFinish", "(LBoreplan$Operation;)I"⟩ ∈ bp_UW := bp_uw 671 (by decide +kernel) (by decide +kernel)
theorem uw_18 : Cond.selects "Boreplan$Shop" ⟨"Boreplan$Shop", "latestFinish", "(LBoreplan$Operation;)I"⟩ ⟨"Boreplan$Shop", "latestFinish", "(LBoreplan$Operation;)I"⟩ ∈ bp_UW := bp_uw 18 (by decide +kernel) (by decide +kernel)
theorem ml_X4_141 : bp_MV RX4 141 mX4_latestFinish 1 RX4 := ⟨⟨uw_669, uw_24, cw_X4_latestFinish, ⟨by decide, by decide⟩, by decide +kernel⟩, rfl, uw_671, uw_18⟩
theorem uw_674 : Cond.methodLink "Boreplan$Shop" 144 ⟨"Boreplan$Machine", "greatestStart", "(II)I"⟩ ∈ bp_UW := bp_uw 674 (by decide +kernel) (by decide +kernel)
theorem uw_675 : Cond.instanceMethod ⟨"Boreplan$Machine", "greatestStart", "(II)I"⟩ ∈ bp_UW := bp_uw 675 (by decide +kernel) (by decide +kernel)
theorem uw_676 : Cond.selects "Boreplan$Machine" ⟨"Boreplan$Machine", "greatestStart", "(II)I"⟩ ⟨"Boreplan$Machine", "greatestStart", "(II)I"⟩ ∈ bp_UW := bp_uw 676 (by decide +kernel) (by decide +kernel)
theorem ml_X4_144 : bp_MV RX4 144 mX1_greatestStart 2 RX1 := ⟨⟨uw_674, uw_33, cw_X1_greatestStart, ⟨by decide, by decide⟩, by decide +kernel⟩, rfl, uw_675, uw_676⟩
theorem uw_498 : Cond.fieldLink "Boreplan$Shop" 147 "Boreplan$Operation" "latestStart" "I" ∈ bp_UW := bp_uw 498 (by decide +kernel) (by decide +kernel)
theorem fl_X4_147 : bp_FL RX4 147 2 13 (.int) (some false) := ⟨RX2, TX2, 14, "Boreplan$Operation", tyX2, rfl, by decide, uc_X2, tyX2_ok, nmX2, uw_498, Or.inl rfl, rfl, (fun _ => rfl), (fun h => by cases h)⟩
theorem uw_486 : Cond.fieldLink "Boreplan$Shop" 150 "Boreplan$Operation" "behindInJob" "LBoreplan$Operation;" ∈ bp_UW := bp_uw 486 (by decide +kernel) (by decide +kernel)
theorem fl_X4_150 : bp_FL RX4 150 2 7 (.object "Boreplan$Operation") (some false) := ⟨RX2, TX2, 14, "Boreplan$Operation", tyX2, rfl, by decide, uc_X2, tyX2_ok, nmX2, uw_486, Or.inl rfl, rfl, (fun _ => rfl), (fun h => by cases h)⟩
theorem uw_491 : Cond.fieldLink "Boreplan$Shop" 153 "Boreplan$Operation" "behindOnMachine" "LBoreplan$Operation;" ∈ bp_UW := bp_uw 491 (by decide +kernel) (by decide +kernel)
theorem fl_X4_153 : bp_FL RX4 153 2 9 (.object "Boreplan$Operation") (some false) := ⟨RX2, TX2, 14, "Boreplan$Operation", tyX2, rfl, by decide, uc_X2, tyX2_ok, nmX2, uw_491, Or.inl rfl, rfl, (fun _ => rfl), (fun h => by cases h)⟩
theorem uw_673 : Cond.methodLink "Boreplan$Shop" 156 ⟨"java/lang/Math", "min", "(II)I"⟩ ∈ bp_UW := bp_uw 673 (by decide +kernel) (by decide +kernel)
theorem ml_X4_156 : Cond.methodLink "Boreplan$Shop" 156 ⟨"java/lang/Math", "min", "(II)I"⟩ ∈ bp_UW := uw_673
theorem uw_694 : Cond.methodLink "Boreplan$Shop" 159 ⟨"Boreplan$Shop", "lastOfPath", "()LBoreplan$Operation;"⟩ ∈ bp_UW := bp_uw 694 (by decide +kernel) (by decide +kernel)
theorem uw_696 : Cond.instanceMethod ⟨"Boreplan$Shop", "lastOfPath", "()LBoreplan$Operation;"⟩ ∈ bp_UW := bp_uw 696 (by decide +kernel) (by decide +kernel)
theorem uw_19 : Cond.selects "Boreplan$Shop" ⟨"Boreplan$Shop", "lastOfPath", "()LBoreplan$Operation;"⟩ ⟨"Boreplan$Shop", "lastOfPath", "()LBoreplan$Operation;"⟩ ∈ bp_UW := bp_uw 19 (by decide +kernel) (by decide +kernel)
theorem ml_X4_159 : bp_MV RX4 159 mX4_lastOfPath 0 RX4 := ⟨⟨uw_694, uw_24, cw_X4_lastOfPath, ⟨by decide, by decide⟩, by decide +kernel⟩, rfl, uw_696, uw_19⟩
theorem uw_698 : Cond.methodLink "Boreplan$Shop" 163 ⟨"Boreplan$Shop", "aheadOnPath", "(LBoreplan$Operation;)LBoreplan$Operation;"⟩ ∈ bp_UW := bp_uw 698 (by decide +kernel) (by decide +kernel)
theorem uw_700 : Cond.instanceMethod ⟨"Boreplan$Shop", "aheadOnPath", "(LBoreplan$Operation;)LBoreplan$Operation;"⟩ ∈ bp_UW := bp_uw 700 (by decide +kernel) (by decide +kernel)
theorem uw_20 : Cond.selects "Boreplan$Shop" ⟨"Boreplan$Shop", "aheadOnPath", "(LBoreplan$Operation;)LBoreplan$Operation;"⟩ ⟨"Boreplan$Shop", "aheadOnPath", "(LBoreplan$Operation;)LBoreplan$Operation;"⟩ ∈ bp_UW := bp_uw 20 (by decide +kernel) (by decide +kernel)
theorem ml_X4_163 : bp_MV RX4 163 mX4_aheadOnPath 1 RX4 := ⟨⟨uw_698, uw_24, cw_X4_aheadOnPath, ⟨by decide, by decide⟩, by decide +kernel⟩, rfl, uw_700, uw_20⟩
theorem uw_424 : Cond.fieldLink "Boreplan$Shop" 167 "Boreplan$Job" "isPlaced" "Z" ∈ bp_UW := bp_uw 424 (by decide +kernel) (by decide +kernel)
theorem fl_X4_167 : bp_FL RX4 167 0 3 (.boolean) (some false) := ⟨RX0, TX0, 5, "Boreplan$Job", tyX0, rfl, by decide, uc_X0, tyX0_ok, nmX0, uw_424, Or.inl rfl, rfl, (fun _ => rfl), (fun h => by cases h)⟩
theorem uw_422 : Cond.fieldLink "Boreplan$Shop" 171 "Boreplan$Job" "operations" "Ljava/util/ArrayList;" ∈ bp_UW := bp_uw 422 (by decide +kernel) (by decide +kernel)
theorem fl_X4_171 : bp_FL RX4 171 0 2 (.object "java/util/ArrayList") (none) := ⟨RX0, TX0, 5, "Boreplan$Job", tyX0, rfl, by decide, uc_X0, tyX0_ok, nmX0, uw_422, Or.inl rfl, rfl, (fun h => by cases h), (fun h => by cases h)⟩
theorem uw_50 : Cond.methodLink "Boreplan" 3 ⟨"java/lang/Object", "<init>", "()V"⟩ ∈ bp_UW := bp_uw 50 (by decide +kernel) (by decide +kernel)
theorem ml_X5_3 : Cond.methodLink "Boreplan" 3 ⟨"java/lang/Object", "<init>", "()V"⟩ ∈ bp_UW := uw_50
theorem uw_53 : Cond.classLink "Boreplan" 9 "Boreplan$Shop" ∈ bp_UW := bp_uw 53 (by decide +kernel) (by decide +kernel)
theorem uw_54 : Cond.instantiable "Boreplan$Shop" 6 ∈ bp_UW := bp_uw 54 (by decide +kernel) (by decide +kernel)
theorem nw_X5_9 : bp_NW RX5 9 4 6 tyX4 := ⟨RX4, TX4, rfl, uc_X4, tyX4_ok, uw_53, uw_54, uw_24⟩
theorem uw_55 : Cond.methodLink "Boreplan" 11 ⟨"Boreplan$Shop", "<init>", "()V"⟩ ∈ bp_UW := bp_uw 55 (by decide +kernel) (by decide +kernel)
theorem uw_56 : Cond.instanceMethod ⟨"Boreplan$Shop", "<init>", "()V"⟩ ∈ bp_UW := bp_uw 56 (by decide +kernel) (by decide +kernel)
theorem ml_X5_11 : bp_MI RX5 11 mX4_init 0 := ⟨⟨uw_55, uw_24, cw_X4_init, ⟨by decide, by decide⟩, by decide +kernel⟩, rfl, rfl, rfl, uw_56⟩
theorem uw_123 : Cond.fieldLink "Boreplan" 12 "Boreplan" "shop" "LBoreplan$Shop;" ∈ bp_UW := bp_uw 123 (by decide +kernel) (by decide +kernel)
theorem fl_X5_12 : bp_FL RX5 12 5 0 (.object "Boreplan$Shop") (some true) := ⟨RX5, TX5, 1, "Boreplan", tyX5, rfl, by decide, uc_X5, tyX5_ok, nmX5, uw_123, Or.inl rfl, rfl, (fun h => by cases h), (fun _ => ⟨rfl, rfl⟩)⟩
theorem uw_100 : Cond.fieldLink "Boreplan" 16 "Boreplan$Shop" "machines" "Ljava/util/ArrayList;" ∈ bp_UW := bp_uw 100 (by decide +kernel) (by decide +kernel)
theorem fl_X5_16 : bp_FL RX5 16 4 0 (.object "java/util/ArrayList") (none) := ⟨RX4, TX4, 6, "Boreplan$Shop", tyX4, rfl, by decide, uc_X4, tyX4_ok, nmX4, uw_100, Or.inl rfl, rfl, (fun h => by cases h), (fun h => by cases h)⟩
theorem uw_131 : Cond.methodLink "Boreplan" 20 ⟨"java/util/ArrayList", "size", "()I"⟩ ∈ bp_UW := bp_uw 131 (by decide +kernel) (by decide +kernel)
theorem ml_X5_20 : bp_MV RX5 20 mJx4a65c_size_8abf5 0 RJx4a65c := ⟨⟨uw_131, uw_27, cw_Jx4a65c_size_8abf5, ⟨by decide, by decide⟩, by decide +kernel⟩, rfl, uw_132, uw_133⟩
theorem uw_203 : Cond.classLink "Boreplan" 33 "Boreplan$Machine" ∈ bp_UW := bp_uw 203 (by decide +kernel) (by decide +kernel)
theorem uw_204 : Cond.instantiable "Boreplan$Machine" 7 ∈ bp_UW := bp_uw 204 (by decide +kernel) (by decide +kernel)
theorem nw_X5_33 : bp_NW RX5 33 1 7 tyX1 := ⟨RX1, TX1, rfl, uc_X1, tyX1_ok, uw_203, uw_204, uw_33⟩
theorem uw_205 : Cond.methodLink "Boreplan" 35 ⟨"Boreplan$Machine", "<init>", "()V"⟩ ∈ bp_UW := bp_uw 205 (by decide +kernel) (by decide +kernel)
theorem uw_206 : Cond.instanceMethod ⟨"Boreplan$Machine", "<init>", "()V"⟩ ∈ bp_UW := bp_uw 206 (by decide +kernel) (by decide +kernel)
theorem ml_X5_35 : bp_MI RX5 35 mX1_init 0 := ⟨⟨uw_205, uw_33, cw_X1_init, ⟨by decide, by decide⟩, by decide +kernel⟩, rfl, rfl, rfl, uw_206⟩
theorem uw_241 : Cond.methodLink "Boreplan" 36 ⟨"java/util/ArrayList", "add", "(Ljava/lang/Object;)Z"⟩ ∈ bp_UW := bp_uw 241 (by decide +kernel) (by decide +kernel)
theorem ml_X5_36 : bp_MV RX5 36 mJx4a65c_add_9ea2d 1 RJx4a65c := ⟨⟨uw_241, uw_27, cw_Jx4a65c_add_9ea2d, ⟨by decide, by decide⟩, by decide +kernel⟩, rfl, uw_242, uw_243⟩
theorem uw_302 : Cond.methodLink "Boreplan" 40 ⟨"Boreplan", "knownMachine", "(I)LBoreplan$Machine;"⟩ ∈ bp_UW := bp_uw 302 (by decide +kernel) (by decide +kernel)
theorem uw_23 : Cond.initialized "Boreplan" ∈ bp_UW := bp_uw 23 (by decide +kernel) (by decide +kernel)
theorem uw_304 : Cond.instanceMethod ⟨"Boreplan", "knownMachine", "(I)LBoreplan$Machine;"⟩ ∈ bp_UW := bp_uw 304 (by decide +kernel) (by decide +kernel)
theorem uw_4 : Cond.selects "Boreplan" ⟨"Boreplan", "knownMachine", "(I)LBoreplan$Machine;"⟩ ⟨"Boreplan", "knownMachine", "(I)LBoreplan$Machine;"⟩ ∈ bp_UW := bp_uw 4 (by decide +kernel) (by decide +kernel)
theorem ml_X5_40 : bp_MV RX5 40 mX5_knownMachine 1 RX5 := ⟨⟨uw_302, uw_23, cw_X5_knownMachine, ⟨by decide, by decide⟩, by decide +kernel⟩, rfl, uw_304, uw_4⟩
theorem uw_218 : Cond.fieldLink "Boreplan" 49 "Boreplan$Machine" "mostToolsNeeded" "I" ∈ bp_UW := bp_uw 218 (by decide +kernel) (by decide +kernel)
theorem fl_X5_49 : bp_FL RX5 49 1 2 (.int) (some false) := ⟨RX1, TX1, 7, "Boreplan$Machine", tyX1, rfl, by decide, uc_X1, tyX1_ok, nmX1, uw_218, Or.inl rfl, rfl, (fun _ => rfl), (fun h => by cases h)⟩
theorem uw_216 : Cond.fieldLink "Boreplan" 55 "Boreplan$Machine" "capacity" "I" ∈ bp_UW := bp_uw 216 (by decide +kernel) (by decide +kernel)
theorem fl_X5_55 : bp_FL RX5 55 1 1 (.int) (some false) := ⟨RX1, TX1, 7, "Boreplan$Machine", tyX1, rfl, by decide, uc_X1, tyX1_ok, nmX1, uw_216, Or.inl rfl, rfl, (fun _ => rfl), (fun h => by cases h)⟩
theorem uw_219 : Cond.fieldLink "Boreplan" 62 "Boreplan$Machine" "broken" "Z" ∈ bp_UW := bp_uw 219 (by decide +kernel) (by decide +kernel)
theorem fl_X5_62 : bp_FL RX5 62 1 3 (.boolean) (some false) := ⟨RX1, TX1, 7, "Boreplan$Machine", tyX1, rfl, by decide, uc_X1, tyX1_ok, nmX1, uw_219, Or.inl rfl, rfl, (fun _ => rfl), (fun h => by cases h)⟩
theorem uw_221 : Cond.fieldLink "Boreplan" 66 "Boreplan$Machine" "brokenFrom" "I" ∈ bp_UW := bp_uw 221 (by decide +kernel) (by decide +kernel)
theorem fl_X5_66 : bp_FL RX5 66 1 4 (.int) (some false) := ⟨RX1, TX1, 7, "Boreplan$Machine", tyX1, rfl, by decide, uc_X1, tyX1_ok, nmX1, uw_221, Or.inl rfl, rfl, (fun _ => rfl), (fun h => by cases h)⟩
theorem uw_223 : Cond.fieldLink "Boreplan" 69 "Boreplan$Machine" "brokenTo" "I" ∈ bp_UW := bp_uw 223 (by decide +kernel) (by decide +kernel)
theorem fl_X5_69 : bp_FL RX5 69 1 5 (.int) (some false) := ⟨RX1, TX1, 7, "Boreplan$Machine", tyX1, rfl, by decide, uc_X1, tyX1_ok, nmX1, uw_223, Or.inl rfl, rfl, (fun _ => rfl), (fun h => by cases h)⟩
theorem uw_359 : Cond.methodLink "Boreplan" 72 ⟨"Boreplan$Shop", "timeAll", "()Z"⟩ ∈ bp_UW := bp_uw 359 (by decide +kernel) (by decide +kernel)
theorem ml_X5_72 : bp_MV RX5 72 mX4_timeAll 0 RX4 := ⟨⟨uw_359, uw_24, cw_X4_timeAll, ⟨by decide, by decide⟩, by decide +kernel⟩, rfl, uw_360, uw_361⟩
theorem uw_109 : Cond.fieldLink "Boreplan" 76 "Boreplan$Shop" "span" "I" ∈ bp_UW := bp_uw 109 (by decide +kernel) (by decide +kernel)
theorem fl_X5_76 : bp_FL RX5 76 4 5 (.int) (some false) := ⟨RX4, TX4, 6, "Boreplan$Shop", tyX4, rfl, by decide, uc_X4, tyX4_ok, nmX4, uw_109, Or.inl rfl, rfl, (fun _ => rfl), (fun h => by cases h)⟩
theorem uw_102 : Cond.fieldLink "Boreplan" 81 "Boreplan$Shop" "jobs" "Ljava/util/ArrayList;" ∈ bp_UW := bp_uw 102 (by decide +kernel) (by decide +kernel)
theorem fl_X5_81 : bp_FL RX5 81 4 1 (.object "java/util/ArrayList") (none) := ⟨RX4, TX4, 6, "Boreplan$Shop", tyX4, rfl, by decide, uc_X4, tyX4_ok, nmX4, uw_102, Or.inl rfl, rfl, (fun h => by cases h), (fun h => by cases h)⟩
theorem uw_408 : Cond.classLink "Boreplan" 86 "Boreplan$Job" ∈ bp_UW := bp_uw 408 (by decide +kernel) (by decide +kernel)
theorem uw_409 : Cond.instantiable "Boreplan$Job" 5 ∈ bp_UW := bp_uw 409 (by decide +kernel) (by decide +kernel)
theorem uw_39 : Cond.initialized "Boreplan$Job" ∈ bp_UW := bp_uw 39 (by decide +kernel) (by decide +kernel)
theorem nw_X5_86 : bp_NW RX5 86 0 5 tyX0 := ⟨RX0, TX0, rfl, uc_X0, tyX0_ok, uw_408, uw_409, uw_39⟩
theorem uw_410 : Cond.methodLink "Boreplan" 88 ⟨"Boreplan$Job", "<init>", "(II)V"⟩ ∈ bp_UW := bp_uw 410 (by decide +kernel) (by decide +kernel)
theorem uw_411 : Cond.instanceMethod ⟨"Boreplan$Job", "<init>", "(II)V"⟩ ∈ bp_UW := bp_uw 411 (by decide +kernel) (by decide +kernel)
theorem ml_X5_88 : bp_MI RX5 88 mX0_init 2 := ⟨⟨uw_410, uw_39, cw_X0_init, ⟨by decide, by decide⟩, by decide +kernel⟩, rfl, rfl, rfl, uw_411⟩
theorem uw_441 : Cond.methodLink "Boreplan" 91 ⟨"Boreplan", "knownJob", "(I)LBoreplan$Job;"⟩ ∈ bp_UW := bp_uw 441 (by decide +kernel) (by decide +kernel)
theorem uw_443 : Cond.instanceMethod ⟨"Boreplan", "knownJob", "(I)LBoreplan$Job;"⟩ ∈ bp_UW := bp_uw 443 (by decide +kernel) (by decide +kernel)
theorem uw_9 : Cond.selects "Boreplan" ⟨"Boreplan", "knownJob", "(I)LBoreplan$Job;"⟩ ⟨"Boreplan", "knownJob", "(I)LBoreplan$Job;"⟩ ∈ bp_UW := bp_uw 9 (by decide +kernel) (by decide +kernel)
theorem ml_X5_91 : bp_MV RX5 91 mX5_knownJob 1 RX5 := ⟨⟨uw_441, uw_23, cw_X5_knownJob, ⟨by decide, by decide⟩, by decide +kernel⟩, rfl, uw_443, uw_9⟩
theorem uw_421 : Cond.fieldLink "Boreplan" 101 "Boreplan$Job" "operations" "Ljava/util/ArrayList;" ∈ bp_UW := bp_uw 421 (by decide +kernel) (by decide +kernel)
theorem fl_X5_101 : bp_FL RX5 101 0 2 (.object "java/util/ArrayList") (none) := ⟨RX0, TX0, 5, "Boreplan$Job", tyX0, rfl, by decide, uc_X0, tyX0_ok, nmX0, uw_421, Or.inl rfl, rfl, (fun h => by cases h), (fun h => by cases h)⟩
theorem uw_423 : Cond.fieldLink "Boreplan" 106 "Boreplan$Job" "isPlaced" "Z" ∈ bp_UW := bp_uw 423 (by decide +kernel) (by decide +kernel)
theorem fl_X5_106 : bp_FL RX5 106 0 3 (.boolean) (some false) := ⟨RX0, TX0, 5, "Boreplan$Job", tyX0, rfl, by decide, uc_X0, tyX0_ok, nmX0, uw_423, Or.inl rfl, rfl, (fun _ => rfl), (fun h => by cases h)⟩
theorem uw_451 : Cond.methodLink "Boreplan" 111 ⟨"java/lang/Integer", "bitCount", "(I)I"⟩ ∈ bp_UW := bp_uw 451 (by decide +kernel) (by decide +kernel)
theorem ml_X5_111 : bp_MS RX5 111 mJ6_bitCount_0f7a4 1 := ⟨⟨uw_451, uw_43, cw_J6_bitCount_0f7a4, ⟨by decide, by decide⟩, by decide +kernel⟩, uw_452⟩
theorem uw_458 : Cond.methodLink "Boreplan" 119 ⟨"Boreplan$Job", "append", "(LBoreplan$Machine;III)I"⟩ ∈ bp_UW := bp_uw 458 (by decide +kernel) (by decide +kernel)
theorem uw_459 : Cond.instanceMethod ⟨"Boreplan$Job", "append", "(LBoreplan$Machine;III)I"⟩ ∈ bp_UW := bp_uw 459 (by decide +kernel) (by decide +kernel)
theorem uw_460 : Cond.selects "Boreplan$Job" ⟨"Boreplan$Job", "append", "(LBoreplan$Machine;III)I"⟩ ⟨"Boreplan$Job", "append", "(LBoreplan$Machine;III)I"⟩ ∈ bp_UW := bp_uw 460 (by decide +kernel) (by decide +kernel)
theorem ml_X5_119 : bp_MV RX5 119 mX0_append 4 RX0 := ⟨⟨uw_458, uw_39, cw_X0_append, ⟨by decide, by decide⟩, by decide +kernel⟩, rfl, uw_459, uw_460⟩
theorem uw_104 : Cond.fieldLink "Boreplan" 130 "Boreplan$Shop" "table" "LBoreplan$Setups;" ∈ bp_UW := bp_uw 104 (by decide +kernel) (by decide +kernel)
theorem fl_X5_130 : bp_FL RX5 130 4 2 (.object "Boreplan$Setups") (none) := ⟨RX4, TX4, 6, "Boreplan$Shop", tyX4, rfl, by decide, uc_X4, tyX4_ok, nmX4, uw_104, Or.inl rfl, rfl, (fun h => by cases h), (fun h => by cases h)⟩
theorem uw_94 : Cond.fieldLink "Boreplan" 134 "Boreplan$Setups" "minutes" "[[I" ∈ bp_UW := bp_uw 94 (by decide +kernel) (by decide +kernel)
theorem fl_X5_134 : bp_FL RX5 134 3 0 (.array (.array .int)) (none) := ⟨RX3, TX3, 1, "Boreplan$Setups", tyX3, rfl, by decide, uc_X3, tyX3_ok, nmX3, uw_94, Or.inl rfl, rfl, (fun h => by cases h), (fun h => by cases h)⟩
theorem uw_543 : Cond.methodLink "Boreplan" 140 ⟨"Boreplan", "waitingJob", "(I)LBoreplan$Job;"⟩ ∈ bp_UW := bp_uw 543 (by decide +kernel) (by decide +kernel)
theorem uw_545 : Cond.instanceMethod ⟨"Boreplan", "waitingJob", "(I)LBoreplan$Job;"⟩ ∈ bp_UW := bp_uw 545 (by decide +kernel) (by decide +kernel)
theorem uw_10 : Cond.selects "Boreplan" ⟨"Boreplan", "waitingJob", "(I)LBoreplan$Job;"⟩ ⟨"Boreplan", "waitingJob", "(I)LBoreplan$Job;"⟩ ∈ bp_UW := bp_uw 10 (by decide +kernel) (by decide +kernel)
theorem ml_X5_140 : bp_MV RX5 140 mX5_waitingJob 1 RX5 := ⟨⟨uw_543, uw_23, cw_X5_waitingJob, ⟨by decide, by decide⟩, by decide +kernel⟩, rfl, uw_545, uw_10⟩
theorem uw_322 : Cond.methodLink "Boreplan" 143 ⟨"java/util/ArrayList", "get", "(I)Ljava/lang/Object;"⟩ ∈ bp_UW := bp_uw 322 (by decide +kernel) (by decide +kernel)
theorem ml_X5_143 : bp_MV RX5 143 mJx4a65c_get_915e3 1 RJx4a65c := ⟨⟨uw_322, uw_27, cw_Jx4a65c_get_915e3, ⟨by decide, by decide⟩, by decide +kernel⟩, rfl, uw_323, uw_324⟩
theorem uw_552 : Cond.classLink "Boreplan" 147 "Boreplan$Operation" ∈ bp_UW := bp_uw 552 (by decide +kernel) (by decide +kernel)
theorem cl_X5_147 : Cond.classLink "Boreplan" 147 "Boreplan$Operation" ∈ bp_UW := uw_552
theorem uw_476 : Cond.fieldLink "Boreplan" 149 "Boreplan$Operation" "machine" "LBoreplan$Machine;" ∈ bp_UW := bp_uw 476 (by decide +kernel) (by decide +kernel)
theorem fl_X5_149 : bp_FL RX5 149 2 2 (.object "Boreplan$Machine") (none) := ⟨RX2, TX2, 14, "Boreplan$Operation", tyX2, rfl, by decide, uc_X2, tyX2_ok, nmX2, uw_476, Or.inl rfl, rfl, (fun h => by cases h), (fun h => by cases h)⟩
theorem uw_214 : Cond.fieldLink "Boreplan" 153 "Boreplan$Machine" "row" "Ljava/util/ArrayList;" ∈ bp_UW := bp_uw 214 (by decide +kernel) (by decide +kernel)
theorem fl_X5_153 : bp_FL RX5 153 1 0 (.object "java/util/ArrayList") (none) := ⟨RX1, TX1, 7, "Boreplan$Machine", tyX1, rfl, by decide, uc_X1, tyX1_ok, nmX1, uw_214, Or.inl rfl, rfl, (fun h => by cases h), (fun h => by cases h)⟩
theorem uw_553 : Cond.methodLink "Boreplan" 156 ⟨"Boreplan$Machine", "insert", "(LBoreplan$Operation;I)V"⟩ ∈ bp_UW := bp_uw 553 (by decide +kernel) (by decide +kernel)
theorem ml_X5_156 : bp_MV RX5 156 mX1_insert 2 RX1 := ⟨⟨uw_553, uw_33, cw_X1_insert, ⟨by decide, by decide⟩, by decide +kernel⟩, rfl, uw_554, uw_555⟩
theorem uw_577 : Cond.methodLink "Boreplan" 160 ⟨"Boreplan$Shop", "insertAtBestPlace", "(LBoreplan$Operation;)V"⟩ ∈ bp_UW := bp_uw 577 (by decide +kernel) (by decide +kernel)
theorem uw_578 : Cond.instanceMethod ⟨"Boreplan$Shop", "insertAtBestPlace", "(LBoreplan$Operation;)V"⟩ ∈ bp_UW := bp_uw 578 (by decide +kernel) (by decide +kernel)
theorem uw_579 : Cond.selects "Boreplan$Shop" ⟨"Boreplan$Shop", "insertAtBestPlace", "(LBoreplan$Operation;)V"⟩ ⟨"Boreplan$Shop", "insertAtBestPlace", "(LBoreplan$Operation;)V"⟩ ∈ bp_UW := bp_uw 579 (by decide +kernel) (by decide +kernel)
theorem ml_X5_160 : bp_MV RX5 160 mX4_insertAtBestPlace 1 RX4 := ⟨⟨uw_577, uw_24, cw_X4_insertAtBestPlace, ⟨by decide, by decide⟩, by decide +kernel⟩, rfl, uw_578, uw_579⟩
theorem uw_600 : Cond.methodLink "Boreplan" 164 ⟨"Boreplan", "placedJob", "(I)LBoreplan$Job;"⟩ ∈ bp_UW := bp_uw 600 (by decide +kernel) (by decide +kernel)
theorem uw_602 : Cond.instanceMethod ⟨"Boreplan", "placedJob", "(I)LBoreplan$Job;"⟩ ∈ bp_UW := bp_uw 602 (by decide +kernel) (by decide +kernel)
theorem uw_14 : Cond.selects "Boreplan" ⟨"Boreplan", "placedJob", "(I)LBoreplan$Job;"⟩ ⟨"Boreplan", "placedJob", "(I)LBoreplan$Job;"⟩ ∈ bp_UW := bp_uw 14 (by decide +kernel) (by decide +kernel)
theorem ml_X5_164 : bp_MV RX5 164 mX5_placedJob 1 RX5 := ⟨⟨uw_600, uw_23, cw_X5_placedJob, ⟨by decide, by decide⟩, by decide +kernel⟩, rfl, uw_602, uw_14⟩
theorem cl_X5_33 : Cond.classLink "Boreplan" 33 "Boreplan$Machine" ∈ bp_UW := uw_203
theorem uw_605 : Cond.methodLink "Boreplan" 167 ⟨"Boreplan$Machine", "takeOutAllOf", "(LBoreplan$Job;)V"⟩ ∈ bp_UW := bp_uw 605 (by decide +kernel) (by decide +kernel)
theorem uw_606 : Cond.instanceMethod ⟨"Boreplan$Machine", "takeOutAllOf", "(LBoreplan$Job;)V"⟩ ∈ bp_UW := bp_uw 606 (by decide +kernel) (by decide +kernel)
theorem uw_607 : Cond.selects "Boreplan$Machine" ⟨"Boreplan$Machine", "takeOutAllOf", "(LBoreplan$Job;)V"⟩ ⟨"Boreplan$Machine", "takeOutAllOf", "(LBoreplan$Job;)V"⟩ ∈ bp_UW := bp_uw 607 (by decide +kernel) (by decide +kernel)
theorem ml_X5_167 : bp_MV RX5 167 mX1_takeOutAllOf 1 RX1 := ⟨⟨uw_605, uw_33, cw_X1_takeOutAllOf, ⟨by decide, by decide⟩, by decide +kernel⟩, rfl, uw_606, uw_607⟩
theorem uw_618 : Cond.methodLink "Boreplan" 181 ⟨"Boreplan$Operation", "code", "()I"⟩ ∈ bp_UW := bp_uw 618 (by decide +kernel) (by decide +kernel)
theorem uw_619 : Cond.instanceMethod ⟨"Boreplan$Operation", "code", "()I"⟩ ∈ bp_UW := bp_uw 619 (by decide +kernel) (by decide +kernel)
theorem uw_620 : Cond.selects "Boreplan$Operation" ⟨"Boreplan$Operation", "code", "()I"⟩ ⟨"Boreplan$Operation", "code", "()I"⟩ ∈ bp_UW := bp_uw 620 (by decide +kernel) (by decide +kernel)
theorem ml_X5_181 : bp_MV RX5 181 mX2_code 0 RX2 := ⟨⟨uw_618, uw_44, cw_X2_code, ⟨by decide, by decide⟩, by decide +kernel⟩, rfl, uw_619, uw_620⟩
theorem uw_640 : Cond.methodLink "Boreplan" 184 ⟨"Boreplan", "placedOperation", "(II)LBoreplan$Operation;"⟩ ∈ bp_UW := bp_uw 640 (by decide +kernel) (by decide +kernel)
theorem uw_642 : Cond.instanceMethod ⟨"Boreplan", "placedOperation", "(II)LBoreplan$Operation;"⟩ ∈ bp_UW := bp_uw 642 (by decide +kernel) (by decide +kernel)
theorem uw_15 : Cond.selects "Boreplan" ⟨"Boreplan", "placedOperation", "(II)LBoreplan$Operation;"⟩ ⟨"Boreplan", "placedOperation", "(II)LBoreplan$Operation;"⟩ ∈ bp_UW := bp_uw 15 (by decide +kernel) (by decide +kernel)
theorem ml_X5_184 : bp_MV RX5 184 mX5_placedOperation 2 RX5 := ⟨⟨uw_640, uw_23, cw_X5_placedOperation, ⟨by decide, by decide⟩, by decide +kernel⟩, rfl, uw_642, uw_15⟩
theorem uw_493 : Cond.fieldLink "Boreplan" 188 "Boreplan$Operation" "start" "I" ∈ bp_UW := bp_uw 493 (by decide +kernel) (by decide +kernel)
theorem fl_X5_188 : bp_FL RX5 188 2 10 (.int) (some false) := ⟨RX2, TX2, 14, "Boreplan$Operation", tyX2, rfl, by decide, uc_X2, tyX2_ok, nmX2, uw_493, Or.inl rfl, rfl, (fun _ => rfl), (fun h => by cases h)⟩
theorem uw_649 : Cond.methodLink "Boreplan" 191 ⟨"Boreplan$Shop", "putLaterInRounds", "()V"⟩ ∈ bp_UW := bp_uw 649 (by decide +kernel) (by decide +kernel)
theorem uw_650 : Cond.instanceMethod ⟨"Boreplan$Shop", "putLaterInRounds", "()V"⟩ ∈ bp_UW := bp_uw 650 (by decide +kernel) (by decide +kernel)
theorem uw_651 : Cond.selects "Boreplan$Shop" ⟨"Boreplan$Shop", "putLaterInRounds", "()V"⟩ ⟨"Boreplan$Shop", "putLaterInRounds", "()V"⟩ ∈ bp_UW := bp_uw 651 (by decide +kernel) (by decide +kernel)
theorem ml_X5_191 : bp_MV RX5 191 mX4_putLaterInRounds 0 RX4 := ⟨⟨uw_649, uw_24, cw_X4_putLaterInRounds, ⟨by decide, by decide⟩, by decide +kernel⟩, rfl, uw_650, uw_651⟩
theorem uw_497 : Cond.fieldLink "Boreplan" 194 "Boreplan$Operation" "startInRounds" "I" ∈ bp_UW := bp_uw 497 (by decide +kernel) (by decide +kernel)
theorem fl_X5_194 : bp_FL RX5 194 2 12 (.int) (some false) := ⟨RX2, TX2, 14, "Boreplan$Operation", tyX2, rfl, by decide, uc_X2, tyX2_ok, nmX2, uw_497, Or.inl rfl, rfl, (fun _ => rfl), (fun h => by cases h)⟩
theorem uw_495 : Cond.fieldLink "Boreplan" 197 "Boreplan$Operation" "finish" "I" ∈ bp_UW := bp_uw 495 (by decide +kernel) (by decide +kernel)
theorem fl_X5_197 : bp_FL RX5 197 2 11 (.int) (some false) := ⟨RX2, TX2, 14, "Boreplan$Operation", tyX2, rfl, by decide, uc_X2, tyX2_ok, nmX2, uw_495, Or.inl rfl, rfl, (fun _ => rfl), (fun h => by cases h)⟩
theorem uw_419 : Cond.fieldLink "Boreplan" 200 "Boreplan$Job" "due" "I" ∈ bp_UW := bp_uw 419 (by decide +kernel) (by decide +kernel)
theorem fl_X5_200 : bp_FL RX5 200 0 1 (.int) (none) := ⟨RX0, TX0, 5, "Boreplan$Job", tyX0, rfl, by decide, uc_X0, tyX0_ok, nmX0, uw_419, Or.inl rfl, rfl, (fun h => by cases h), (fun h => by cases h)⟩
theorem uw_682 : Cond.methodLink "Boreplan" 203 ⟨"java/lang/Math", "max", "(II)I"⟩ ∈ bp_UW := bp_uw 682 (by decide +kernel) (by decide +kernel)
theorem ml_X5_203 : Cond.methodLink "Boreplan" 203 ⟨"java/lang/Math", "max", "(II)I"⟩ ∈ bp_UW := uw_682
theorem uw_665 : Cond.methodLink "Boreplan" 209 ⟨"Boreplan$Shop", "findLatestStarts", "()V"⟩ ∈ bp_UW := bp_uw 665 (by decide +kernel) (by decide +kernel)
theorem uw_666 : Cond.instanceMethod ⟨"Boreplan$Shop", "findLatestStarts", "()V"⟩ ∈ bp_UW := bp_uw 666 (by decide +kernel) (by decide +kernel)
theorem uw_667 : Cond.selects "Boreplan$Shop" ⟨"Boreplan$Shop", "findLatestStarts", "()V"⟩ ⟨"Boreplan$Shop", "findLatestStarts", "()V"⟩ ∈ bp_UW := bp_uw 667 (by decide +kernel) (by decide +kernel)
theorem ml_X5_209 : bp_MV RX5 209 mX4_findLatestStarts 0 RX4 := ⟨⟨uw_665, uw_24, cw_X4_findLatestStarts, ⟨by decide, by decide⟩, by decide +kernel⟩, rfl, uw_666, uw_667⟩
theorem uw_499 : Cond.fieldLink "Boreplan" 212 "Boreplan$Operation" "latestStart" "I" ∈ bp_UW := bp_uw 499 (by decide +kernel) (by decide +kernel)
theorem fl_X5_212 : bp_FL RX5 212 2 13 (.int) (some false) := ⟨RX2, TX2, 14, "Boreplan$Operation", tyX2, rfl, by decide, uc_X2, tyX2_ok, nmX2, uw_499, Or.inl rfl, rfl, (fun _ => rfl), (fun h => by cases h)⟩
theorem uw_690 : Cond.methodLink "Boreplan" 215 ⟨"Boreplan$Shop", "findPath", "()V"⟩ ∈ bp_UW := bp_uw 690 (by decide +kernel) (by decide +kernel)
theorem uw_691 : Cond.instanceMethod ⟨"Boreplan$Shop", "findPath", "()V"⟩ ∈ bp_UW := bp_uw 691 (by decide +kernel) (by decide +kernel)
theorem uw_692 : Cond.selects "Boreplan$Shop" ⟨"Boreplan$Shop", "findPath", "()V"⟩ ⟨"Boreplan$Shop", "findPath", "()V"⟩ ∈ bp_UW := bp_uw 692 (by decide +kernel) (by decide +kernel)
theorem ml_X5_215 : bp_MV RX5 215 mX4_findPath 0 RX4 := ⟨⟨uw_690, uw_24, cw_X4_findPath, ⟨by decide, by decide⟩, by decide +kernel⟩, rfl, uw_691, uw_692⟩
theorem uw_107 : Cond.fieldLink "Boreplan" 218 "Boreplan$Shop" "path" "Ljava/util/ArrayList;" ∈ bp_UW := bp_uw 107 (by decide +kernel) (by decide +kernel)
theorem fl_X5_218 : bp_FL RX5 218 4 4 (.object "java/util/ArrayList") (none) := ⟨RX4, TX4, 6, "Boreplan$Shop", tyX4, rfl, by decide, uc_X4, tyX4_ok, nmX4, uw_107, Or.inl rfl, rfl, (fun h => by cases h), (fun h => by cases h)⟩
theorem uw_726 : Cond.methodLink "Boreplan" 221 ⟨"Boreplan$Setups", "sumOf", "(LBoreplan$Machine;)I"⟩ ∈ bp_UW := bp_uw 726 (by decide +kernel) (by decide +kernel)
theorem uw_727 : Cond.instanceMethod ⟨"Boreplan$Setups", "sumOf", "(LBoreplan$Machine;)I"⟩ ∈ bp_UW := bp_uw 727 (by decide +kernel) (by decide +kernel)
theorem uw_728 : Cond.selects "Boreplan$Setups" ⟨"Boreplan$Setups", "sumOf", "(LBoreplan$Machine;)I"⟩ ⟨"Boreplan$Setups", "sumOf", "(LBoreplan$Machine;)I"⟩ ∈ bp_UW := bp_uw 728 (by decide +kernel) (by decide +kernel)
theorem ml_X5_221 : bp_MV RX5 221 mX3_sumOf 1 RX3 := ⟨⟨uw_726, uw_28, cw_X3_sumOf, ⟨by decide, by decide⟩, by decide +kernel⟩, rfl, uw_727, uw_728⟩
theorem uw_713 : Cond.methodLink "Boreplan" 225 ⟨"Boreplan$Machine", "leastLoads", "()I"⟩ ∈ bp_UW := bp_uw 713 (by decide +kernel) (by decide +kernel)
theorem uw_714 : Cond.instanceMethod ⟨"Boreplan$Machine", "leastLoads", "()I"⟩ ∈ bp_UW := bp_uw 714 (by decide +kernel) (by decide +kernel)
theorem uw_715 : Cond.selects "Boreplan$Machine" ⟨"Boreplan$Machine", "leastLoads", "()I"⟩ ⟨"Boreplan$Machine", "leastLoads", "()I"⟩ ∈ bp_UW := bp_uw 715 (by decide +kernel) (by decide +kernel)
theorem ml_X5_225 : bp_MV RX5 225 mX1_leastLoads 0 RX1 := ⟨⟨uw_713, uw_33, cw_X1_leastLoads, ⟨by decide, by decide⟩, by decide +kernel⟩, rfl, uw_714, uw_715⟩
theorem cl_X5_86 : Cond.classLink "Boreplan" 86 "Boreplan$Job" ∈ bp_UW := uw_408
theorem uw_547 : Cond.methodLink "Boreplan" 234 ⟨"java/util/ArrayList", "isEmpty", "()Z"⟩ ∈ bp_UW := bp_uw 547 (by decide +kernel) (by decide +kernel)
theorem uw_548 : Cond.instanceMethod ⟨"java/util/ArrayList", "isEmpty", "()Z"⟩ ∈ bp_UW := bp_uw 548 (by decide +kernel) (by decide +kernel)
theorem uw_549 : Cond.selects "java/util/ArrayList" ⟨"java/util/ArrayList", "isEmpty", "()Z"⟩ ⟨"java/util/ArrayList", "isEmpty", "()Z"⟩ ∈ bp_UW := bp_uw 549 (by decide +kernel) (by decide +kernel)
theorem ml_X5_234 : bp_MV RX5 234 mJx4a65c_isEmpty_aae02 0 RJx4a65c := ⟨⟨uw_547, uw_27, cw_Jx4a65c_isEmpty_aae02, ⟨by decide, by decide⟩, by decide +kernel⟩, rfl, uw_548, uw_549⟩
theorem uw_632 : Cond.constant "BoreplanLaw" 7 (2147483647 : Int32) ∈ bp_UW := bp_uw 632 (by decide +kernel) (by decide +kernel)
theorem kc_L_7 : Cond.constant "BoreplanLaw" 7 (2147483647 : Int32) ∈ bp_UW := uw_632
theorem uw_636 : Cond.methodLink "BoreplanLaw" 8 ⟨"Boreplan", "startOf", "(II)I"⟩ ∈ bp_UW := bp_uw 636 (by decide +kernel) (by decide +kernel)
theorem uw_637 : Cond.instanceMethod ⟨"Boreplan", "startOf", "(II)I"⟩ ∈ bp_UW := bp_uw 637 (by decide +kernel) (by decide +kernel)
theorem uw_638 : Cond.selects "Boreplan" ⟨"Boreplan", "startOf", "(II)I"⟩ ⟨"Boreplan", "startOf", "(II)I"⟩ ∈ bp_UW := bp_uw 638 (by decide +kernel) (by decide +kernel)
theorem ml_L_8 : bp_MV RL 8 mX5_startOf 2 RX5 := ⟨⟨uw_636, uw_23, cw_X5_startOf, ⟨by decide, by decide⟩, by decide +kernel⟩, rfl, uw_637, uw_638⟩
theorem uw_645 : Cond.methodLink "BoreplanLaw" 14 ⟨"Boreplan", "startByRounds", "(II)I"⟩ ∈ bp_UW := bp_uw 645 (by decide +kernel) (by decide +kernel)
theorem uw_646 : Cond.instanceMethod ⟨"Boreplan", "startByRounds", "(II)I"⟩ ∈ bp_UW := bp_uw 646 (by decide +kernel) (by decide +kernel)
theorem uw_647 : Cond.selects "Boreplan" ⟨"Boreplan", "startByRounds", "(II)I"⟩ ⟨"Boreplan", "startByRounds", "(II)I"⟩ ∈ bp_UW := bp_uw 647 (by decide +kernel) (by decide +kernel)
theorem ml_L_14 : bp_MV RL 14 mX5_startByRounds 2 RX5 := ⟨⟨uw_645, uw_23, cw_X5_startByRounds, ⟨by decide, by decide⟩, by decide +kernel⟩, rfl, uw_646, uw_647⟩
theorem uw_661 : Cond.methodLink "BoreplanLaw" 17 ⟨"Boreplan", "slack", "(II)I"⟩ ∈ bp_UW := bp_uw 661 (by decide +kernel) (by decide +kernel)
theorem uw_662 : Cond.instanceMethod ⟨"Boreplan", "slack", "(II)I"⟩ ∈ bp_UW := bp_uw 662 (by decide +kernel) (by decide +kernel)
theorem uw_663 : Cond.selects "Boreplan" ⟨"Boreplan", "slack", "(II)I"⟩ ⟨"Boreplan", "slack", "(II)I"⟩ ∈ bp_UW := bp_uw 663 (by decide +kernel) (by decide +kernel)
theorem ml_L_17 : bp_MV RL 17 mX5_slack 2 RX5 := ⟨⟨uw_661, uw_23, cw_X5_slack, ⟨by decide, by decide⟩, by decide +kernel⟩, rfl, uw_662, uw_663⟩
theorem uw_678 : Cond.methodLink "BoreplanLaw" 20 ⟨"Boreplan", "lateness", "(I)I"⟩ ∈ bp_UW := bp_uw 678 (by decide +kernel) (by decide +kernel)
theorem uw_679 : Cond.instanceMethod ⟨"Boreplan", "lateness", "(I)I"⟩ ∈ bp_UW := bp_uw 679 (by decide +kernel) (by decide +kernel)
theorem uw_680 : Cond.selects "Boreplan" ⟨"Boreplan", "lateness", "(I)I"⟩ ⟨"Boreplan", "lateness", "(I)I"⟩ ∈ bp_UW := bp_uw 680 (by decide +kernel) (by decide +kernel)
theorem ml_L_20 : bp_MV RL 20 mX5_lateness 1 RX5 := ⟨⟨uw_678, uw_23, cw_X5_lateness, ⟨by decide, by decide⟩, by decide +kernel⟩, rfl, uw_679, uw_680⟩
theorem uw_622 : Cond.methodLink "BoreplanLaw" 24 ⟨"Boreplan", "span", "()I"⟩ ∈ bp_UW := bp_uw 622 (by decide +kernel) (by decide +kernel)
theorem uw_623 : Cond.instanceMethod ⟨"Boreplan", "span", "()I"⟩ ∈ bp_UW := bp_uw 623 (by decide +kernel) (by decide +kernel)
theorem uw_624 : Cond.selects "Boreplan" ⟨"Boreplan", "span", "()I"⟩ ⟨"Boreplan", "span", "()I"⟩ ∈ bp_UW := bp_uw 624 (by decide +kernel) (by decide +kernel)
theorem ml_L_24 : bp_MV RL 24 mX5_span 0 RX5 := ⟨⟨uw_622, uw_23, cw_X5_span, ⟨by decide, by decide⟩, by decide +kernel⟩, rfl, uw_623, uw_624⟩
theorem uw_683 : Cond.methodLink "BoreplanLaw" 28 ⟨"BoreplanLaw", "isPath", "(LBoreplan;[III)Z"⟩ ∈ bp_UW := bp_uw 683 (by decide +kernel) (by decide +kernel)
theorem uw_22 : Cond.initialized "BoreplanLaw" ∈ bp_UW := bp_uw 22 (by decide +kernel) (by decide +kernel)
theorem uw_684 : Cond.static ⟨"BoreplanLaw", "isPath", "(LBoreplan;[III)Z"⟩ ∈ bp_UW := bp_uw 684 (by decide +kernel) (by decide +kernel)
theorem ml_L_28 : bp_MS RL 28 mL_isPath 4 := ⟨⟨uw_683, uw_22, cw_L_isPath, ⟨by decide, by decide⟩, by decide +kernel⟩, uw_684⟩
theorem uw_686 : Cond.methodLink "BoreplanLaw" 34 ⟨"Boreplan", "criticals", "()I"⟩ ∈ bp_UW := bp_uw 686 (by decide +kernel) (by decide +kernel)
theorem uw_687 : Cond.instanceMethod ⟨"Boreplan", "criticals", "()I"⟩ ∈ bp_UW := bp_uw 687 (by decide +kernel) (by decide +kernel)
theorem uw_688 : Cond.selects "Boreplan" ⟨"Boreplan", "criticals", "()I"⟩ ⟨"Boreplan", "criticals", "()I"⟩ ∈ bp_UW := bp_uw 688 (by decide +kernel) (by decide +kernel)
theorem ml_L_34 : bp_MV RL 34 mX5_criticals 0 RX5 := ⟨⟨uw_686, uw_23, cw_X5_criticals, ⟨by decide, by decide⟩, by decide +kernel⟩, rfl, uw_687, uw_688⟩
theorem uw_702 : Cond.methodLink "BoreplanLaw" 37 ⟨"Boreplan", "criticalAt", "(I)I"⟩ ∈ bp_UW := bp_uw 702 (by decide +kernel) (by decide +kernel)
theorem uw_703 : Cond.instanceMethod ⟨"Boreplan", "criticalAt", "(I)I"⟩ ∈ bp_UW := bp_uw 703 (by decide +kernel) (by decide +kernel)
theorem uw_704 : Cond.selects "Boreplan" ⟨"Boreplan", "criticalAt", "(I)I"⟩ ⟨"Boreplan", "criticalAt", "(I)I"⟩ ∈ bp_UW := bp_uw 704 (by decide +kernel) (by decide +kernel)
theorem ml_L_37 : bp_MV RL 37 mX5_criticalAt 1 RX5 := ⟨⟨uw_702, uw_23, cw_X5_criticalAt, ⟨by decide, by decide⟩, by decide +kernel⟩, rfl, uw_703, uw_704⟩
theorem uw_609 : Cond.methodLink "BoreplanLaw" 40 ⟨"Boreplan", "placed", "(I)I"⟩ ∈ bp_UW := bp_uw 609 (by decide +kernel) (by decide +kernel)
theorem uw_610 : Cond.instanceMethod ⟨"Boreplan", "placed", "(I)I"⟩ ∈ bp_UW := bp_uw 610 (by decide +kernel) (by decide +kernel)
theorem uw_611 : Cond.selects "Boreplan" ⟨"Boreplan", "placed", "(I)I"⟩ ⟨"Boreplan", "placed", "(I)I"⟩ ∈ bp_UW := bp_uw 611 (by decide +kernel) (by decide +kernel)
theorem ml_L_40 : bp_MV RL 40 mX5_placed 1 RX5 := ⟨⟨uw_609, uw_23, cw_X5_placed, ⟨by decide, by decide⟩, by decide +kernel⟩, rfl, uw_610, uw_611⟩
theorem uw_613 : Cond.methodLink "BoreplanLaw" 43 ⟨"Boreplan", "placedAt", "(II)I"⟩ ∈ bp_UW := bp_uw 613 (by decide +kernel) (by decide +kernel)
theorem uw_614 : Cond.instanceMethod ⟨"Boreplan", "placedAt", "(II)I"⟩ ∈ bp_UW := bp_uw 614 (by decide +kernel) (by decide +kernel)
theorem uw_615 : Cond.selects "Boreplan" ⟨"Boreplan", "placedAt", "(II)I"⟩ ⟨"Boreplan", "placedAt", "(II)I"⟩ ∈ bp_UW := bp_uw 615 (by decide +kernel) (by decide +kernel)
theorem ml_L_43 : bp_MV RL 43 mX5_placedAt 2 RX5 := ⟨⟨uw_613, uw_23, cw_X5_placedAt, ⟨by decide, by decide⟩, by decide +kernel⟩, rfl, uw_614, uw_615⟩
theorem uw_709 : Cond.methodLink "BoreplanLaw" 46 ⟨"Boreplan", "loads", "(I)I"⟩ ∈ bp_UW := bp_uw 709 (by decide +kernel) (by decide +kernel)
theorem uw_710 : Cond.instanceMethod ⟨"Boreplan", "loads", "(I)I"⟩ ∈ bp_UW := bp_uw 710 (by decide +kernel) (by decide +kernel)
theorem uw_711 : Cond.selects "Boreplan" ⟨"Boreplan", "loads", "(I)I"⟩ ⟨"Boreplan", "loads", "(I)I"⟩ ∈ bp_UW := bp_uw 711 (by decide +kernel) (by decide +kernel)
theorem ml_L_46 : bp_MV RL 46 mX5_loads 1 RX5 := ⟨⟨uw_709, uw_23, cw_X5_loads, ⟨by decide, by decide⟩, by decide +kernel⟩, rfl, uw_710, uw_711⟩
theorem uw_722 : Cond.methodLink "BoreplanLaw" 49 ⟨"Boreplan", "setups", "(I)I"⟩ ∈ bp_UW := bp_uw 722 (by decide +kernel) (by decide +kernel)
theorem uw_723 : Cond.instanceMethod ⟨"Boreplan", "setups", "(I)I"⟩ ∈ bp_UW := bp_uw 723 (by decide +kernel) (by decide +kernel)
theorem uw_724 : Cond.selects "Boreplan" ⟨"Boreplan", "setups", "(I)I"⟩ ⟨"Boreplan", "setups", "(I)I"⟩ ∈ bp_UW := bp_uw 724 (by decide +kernel) (by decide +kernel)
theorem ml_L_49 : bp_MV RL 49 mX5_setups 1 RX5 := ⟨⟨uw_722, uw_23, cw_X5_setups, ⟨by decide, by decide⟩, by decide +kernel⟩, rfl, uw_723, uw_724⟩
theorem uw_45 : Cond.classLink "BoreplanLaw" 9 "Boreplan" ∈ bp_UW := bp_uw 45 (by decide +kernel) (by decide +kernel)
theorem uw_46 : Cond.instantiable "Boreplan" 1 ∈ bp_UW := bp_uw 46 (by decide +kernel) (by decide +kernel)
theorem nw_L_9 : bp_NW RL 9 5 1 tyX5 := ⟨RX5, TX5, rfl, uc_X5, tyX5_ok, uw_45, uw_46, uw_23⟩
theorem uw_47 : Cond.methodLink "BoreplanLaw" 52 ⟨"Boreplan", "<init>", "()V"⟩ ∈ bp_UW := bp_uw 47 (by decide +kernel) (by decide +kernel)
theorem uw_48 : Cond.instanceMethod ⟨"Boreplan", "<init>", "()V"⟩ ∈ bp_UW := bp_uw 48 (by decide +kernel) (by decide +kernel)
theorem ml_L_52 : bp_MI RL 52 mX5_init 0 := ⟨⟨uw_47, uw_23, cw_X5_init, ⟨by decide, by decide⟩, by decide +kernel⟩, rfl, rfl, rfl, uw_48⟩
theorem uw_626 : Cond.methodLink "BoreplanLaw" 53 ⟨"BoreplanLaw", "cell", "([II)I"⟩ ∈ bp_UW := bp_uw 626 (by decide +kernel) (by decide +kernel)
theorem uw_627 : Cond.static ⟨"BoreplanLaw", "cell", "([II)I"⟩ ∈ bp_UW := bp_uw 627 (by decide +kernel) (by decide +kernel)
theorem ml_L_53 : bp_MS RL 53 mL_cell 2 := ⟨⟨uw_626, uw_22, cw_L_cell, ⟨by decide, by decide⟩, by decide +kernel⟩, uw_627⟩
theorem uw_629 : Cond.methodLink "BoreplanLaw" 57 ⟨"BoreplanLaw", "low", "(II)I"⟩ ∈ bp_UW := bp_uw 629 (by decide +kernel) (by decide +kernel)
theorem uw_630 : Cond.static ⟨"BoreplanLaw", "low", "(II)I"⟩ ∈ bp_UW := bp_uw 630 (by decide +kernel) (by decide +kernel)
theorem ml_L_57 : bp_MS RL 57 mL_low 2 := ⟨⟨uw_629, uw_22, cw_L_low, ⟨by decide, by decide⟩, by decide +kernel⟩, uw_630⟩
theorem uw_127 : Cond.methodLink "BoreplanLaw" 60 ⟨"Boreplan", "addMachine", "()I"⟩ ∈ bp_UW := bp_uw 127 (by decide +kernel) (by decide +kernel)
theorem uw_128 : Cond.instanceMethod ⟨"Boreplan", "addMachine", "()I"⟩ ∈ bp_UW := bp_uw 128 (by decide +kernel) (by decide +kernel)
theorem uw_129 : Cond.selects "Boreplan" ⟨"Boreplan", "addMachine", "()I"⟩ ⟨"Boreplan", "addMachine", "()I"⟩ ∈ bp_UW := bp_uw 129 (by decide +kernel) (by decide +kernel)
theorem ml_L_60 : bp_MV RL 60 mX5_addMachine 0 RX5 := ⟨⟨uw_127, uw_23, cw_X5_addMachine, ⟨by decide, by decide⟩, by decide +kernel⟩, rfl, uw_128, uw_129⟩
theorem uw_402 : Cond.methodLink "BoreplanLaw" 63 ⟨"Boreplan", "addJob", "(I)I"⟩ ∈ bp_UW := bp_uw 402 (by decide +kernel) (by decide +kernel)
theorem uw_403 : Cond.instanceMethod ⟨"Boreplan", "addJob", "(I)I"⟩ ∈ bp_UW := bp_uw 403 (by decide +kernel) (by decide +kernel)
theorem uw_404 : Cond.selects "Boreplan" ⟨"Boreplan", "addJob", "(I)I"⟩ ⟨"Boreplan", "addJob", "(I)I"⟩ ∈ bp_UW := bp_uw 404 (by decide +kernel) (by decide +kernel)
theorem ml_L_63 : bp_MV RL 63 mX5_addJob 1 RX5 := ⟨⟨uw_402, uw_23, cw_X5_addJob, ⟨by decide, by decide⟩, by decide +kernel⟩, rfl, uw_403, uw_404⟩
theorem uw_437 : Cond.methodLink "BoreplanLaw" 66 ⟨"Boreplan", "addOperation", "(IIIII)I"⟩ ∈ bp_UW := bp_uw 437 (by decide +kernel) (by decide +kernel)
theorem uw_438 : Cond.instanceMethod ⟨"Boreplan", "addOperation", "(IIIII)I"⟩ ∈ bp_UW := bp_uw 438 (by decide +kernel) (by decide +kernel)
theorem uw_439 : Cond.selects "Boreplan" ⟨"Boreplan", "addOperation", "(IIIII)I"⟩ ⟨"Boreplan", "addOperation", "(IIIII)I"⟩ ∈ bp_UW := bp_uw 439 (by decide +kernel) (by decide +kernel)
theorem ml_L_66 : bp_MV RL 66 mX5_addOperation 5 RX5 := ⟨⟨uw_437, uw_23, cw_X5_addOperation, ⟨by decide, by decide⟩, by decide +kernel⟩, rfl, uw_438, uw_439⟩
theorem uw_596 : Cond.methodLink "BoreplanLaw" 70 ⟨"Boreplan", "remove", "(I)I"⟩ ∈ bp_UW := bp_uw 596 (by decide +kernel) (by decide +kernel)
theorem uw_597 : Cond.instanceMethod ⟨"Boreplan", "remove", "(I)I"⟩ ∈ bp_UW := bp_uw 597 (by decide +kernel) (by decide +kernel)
theorem uw_598 : Cond.selects "Boreplan" ⟨"Boreplan", "remove", "(I)I"⟩ ⟨"Boreplan", "remove", "(I)I"⟩ ∈ bp_UW := bp_uw 598 (by decide +kernel) (by decide +kernel)
theorem ml_L_70 : bp_MV RL 70 mX5_remove 1 RX5 := ⟨⟨uw_596, uw_23, cw_X5_remove, ⟨by decide, by decide⟩, by decide +kernel⟩, rfl, uw_597, uw_598⟩
theorem uw_539 : Cond.methodLink "BoreplanLaw" 73 ⟨"Boreplan", "place", "(I)I"⟩ ∈ bp_UW := bp_uw 539 (by decide +kernel) (by decide +kernel)
theorem uw_540 : Cond.instanceMethod ⟨"Boreplan", "place", "(I)I"⟩ ∈ bp_UW := bp_uw 540 (by decide +kernel) (by decide +kernel)
theorem uw_541 : Cond.selects "Boreplan" ⟨"Boreplan", "place", "(I)I"⟩ ⟨"Boreplan", "place", "(I)I"⟩ ∈ bp_UW := bp_uw 541 (by decide +kernel) (by decide +kernel)
theorem ml_L_73 : bp_MV RL 73 mX5_place 1 RX5 := ⟨⟨uw_539, uw_23, cw_X5_place, ⟨by decide, by decide⟩, by decide +kernel⟩, rfl, uw_540, uw_541⟩
theorem uw_573 : Cond.methodLink "BoreplanLaw" 76 ⟨"Boreplan", "rush", "(I)I"⟩ ∈ bp_UW := bp_uw 573 (by decide +kernel) (by decide +kernel)
theorem uw_574 : Cond.instanceMethod ⟨"Boreplan", "rush", "(I)I"⟩ ∈ bp_UW := bp_uw 574 (by decide +kernel) (by decide +kernel)
theorem uw_575 : Cond.selects "Boreplan" ⟨"Boreplan", "rush", "(I)I"⟩ ⟨"Boreplan", "rush", "(I)I"⟩ ∈ bp_UW := bp_uw 575 (by decide +kernel) (by decide +kernel)
theorem ml_L_76 : bp_MV RL 76 mX5_rush 1 RX5 := ⟨⟨uw_573, uw_23, cw_X5_rush, ⟨by decide, by decide⟩, by decide +kernel⟩, rfl, uw_574, uw_575⟩
theorem uw_533 : Cond.methodLink "BoreplanLaw" 79 ⟨"Boreplan", "setSetup", "(III)I"⟩ ∈ bp_UW := bp_uw 533 (by decide +kernel) (by decide +kernel)
theorem uw_534 : Cond.instanceMethod ⟨"Boreplan", "setSetup", "(III)I"⟩ ∈ bp_UW := bp_uw 534 (by decide +kernel) (by decide +kernel)
theorem uw_535 : Cond.selects "Boreplan" ⟨"Boreplan", "setSetup", "(III)I"⟩ ⟨"Boreplan", "setSetup", "(III)I"⟩ ∈ bp_UW := bp_uw 535 (by decide +kernel) (by decide +kernel)
theorem ml_L_79 : bp_MV RL 79 mX5_setSetup 3 RX5 := ⟨⟨uw_533, uw_23, cw_X5_setSetup, ⟨by decide, by decide⟩, by decide +kernel⟩, rfl, uw_534, uw_535⟩
theorem uw_353 : Cond.methodLink "BoreplanLaw" 83 ⟨"Boreplan", "breakdown", "(III)I"⟩ ∈ bp_UW := bp_uw 353 (by decide +kernel) (by decide +kernel)
theorem uw_354 : Cond.instanceMethod ⟨"Boreplan", "breakdown", "(III)I"⟩ ∈ bp_UW := bp_uw 354 (by decide +kernel) (by decide +kernel)
theorem uw_355 : Cond.selects "Boreplan" ⟨"Boreplan", "breakdown", "(III)I"⟩ ⟨"Boreplan", "breakdown", "(III)I"⟩ ∈ bp_UW := bp_uw 355 (by decide +kernel) (by decide +kernel)
theorem ml_L_83 : bp_MV RL 83 mX5_breakdown 3 RX5 := ⟨⟨uw_353, uw_23, cw_X5_breakdown, ⟨by decide, by decide⟩, by decide +kernel⟩, rfl, uw_354, uw_355⟩
theorem uw_398 : Cond.methodLink "BoreplanLaw" 86 ⟨"Boreplan", "repair", "(I)Z"⟩ ∈ bp_UW := bp_uw 398 (by decide +kernel) (by decide +kernel)
theorem uw_399 : Cond.instanceMethod ⟨"Boreplan", "repair", "(I)Z"⟩ ∈ bp_UW := bp_uw 399 (by decide +kernel) (by decide +kernel)
theorem uw_400 : Cond.selects "Boreplan" ⟨"Boreplan", "repair", "(I)Z"⟩ ⟨"Boreplan", "repair", "(I)Z"⟩ ∈ bp_UW := bp_uw 400 (by decide +kernel) (by decide +kernel)
theorem ml_L_86 : bp_MV RL 86 mX5_repair 1 RX5 := ⟨⟨uw_398, uw_23, cw_X5_repair, ⟨by decide, by decide⟩, by decide +kernel⟩, rfl, uw_399, uw_400⟩
theorem uw_298 : Cond.methodLink "BoreplanLaw" 90 ⟨"Boreplan", "setMagazine", "(II)I"⟩ ∈ bp_UW := bp_uw 298 (by decide +kernel) (by decide +kernel)
theorem uw_299 : Cond.instanceMethod ⟨"Boreplan", "setMagazine", "(II)I"⟩ ∈ bp_UW := bp_uw 299 (by decide +kernel) (by decide +kernel)
theorem uw_300 : Cond.selects "Boreplan" ⟨"Boreplan", "setMagazine", "(II)I"⟩ ⟨"Boreplan", "setMagazine", "(II)I"⟩ ∈ bp_UW := bp_uw 300 (by decide +kernel) (by decide +kernel)
theorem ml_L_90 : bp_MV RL 90 mX5_setMagazine 2 RX5 := ⟨⟨uw_298, uw_23, cw_X5_setMagazine, ⟨by decide, by decide⟩, by decide +kernel⟩, rfl, uw_299, uw_300⟩
theorem uw_706 : Cond.methodLink "BoreplanLaw" 93 ⟨"BoreplanLaw", "areRows", "(LBoreplan;[I[I[III)Z"⟩ ∈ bp_UW := bp_uw 706 (by decide +kernel) (by decide +kernel)
theorem uw_707 : Cond.static ⟨"BoreplanLaw", "areRows", "(LBoreplan;[I[I[III)Z"⟩ ∈ bp_UW := bp_uw 707 (by decide +kernel) (by decide +kernel)
theorem ml_L_93 : bp_MS RL 93 mL_areRows 6 := ⟨⟨uw_706, uw_22, cw_L_areRows, ⟨by decide, by decide⟩, by decide +kernel⟩, uw_707⟩
theorem uw_633 : Cond.methodLink "BoreplanLaw" 97 ⟨"BoreplanLaw", "areTimes", "(LBoreplan;[I[I[I[II)Z"⟩ ∈ bp_UW := bp_uw 633 (by decide +kernel) (by decide +kernel)
theorem uw_634 : Cond.static ⟨"BoreplanLaw", "areTimes", "(LBoreplan;[I[I[I[II)Z"⟩ ∈ bp_UW := bp_uw 634 (by decide +kernel) (by decide +kernel)
theorem ml_L_97 : bp_MS RL 97 mL_areTimes 6 := ⟨⟨uw_633, uw_22, cw_L_areTimes, ⟨by decide, by decide⟩, by decide +kernel⟩, uw_634⟩
theorem uw_64 : Cond.methodLink "java/util/ArrayList" 1 ⟨"java/util/AbstractList", "<init>", "()V"⟩ ∈ bp_UW := bp_uw 64 (by decide +kernel) (by decide +kernel)
theorem uw_26 : Cond.initialized "java/util/AbstractList" ∈ bp_UW := bp_uw 26 (by decide +kernel) (by decide +kernel)
theorem uw_65 : Cond.instanceMethod ⟨"java/util/AbstractList", "<init>", "()V"⟩ ∈ bp_UW := bp_uw 65 (by decide +kernel) (by decide +kernel)
theorem ml_Jx4a65c_1 : bp_MI RJx4a65c 1 mJxc12de_init_da8c8 0 := ⟨⟨uw_64, uw_26, cw_Jxc12de_init_da8c8, ⟨by decide, by decide⟩, by decide +kernel⟩, rfl, rfl, rfl, uw_65⟩
theorem uw_71 : Cond.fieldLink "java/util/ArrayList" 39 "java/util/ArrayList" "DEFAULTCAPACITY_EMPTY_ELEMENTDATA" "[Ljava/lang/Object;" ∈ bp_UW := bp_uw 71 (by decide +kernel) (by decide +kernel)
theorem gs_Jx4a65c_39 : Cond.fieldLink "java/util/ArrayList" 39 "java/util/ArrayList" "DEFAULTCAPACITY_EMPTY_ELEMENTDATA" "[Ljava/lang/Object;" ∈ bp_UW := uw_71
theorem uw_73 : Cond.fieldLink "java/util/ArrayList" 9 "java/util/ArrayList" "elementData" "[Ljava/lang/Object;" ∈ bp_UW := bp_uw 73 (by decide +kernel) (by decide +kernel)
theorem fl_Jx4a65c_9 : bp_FL RJx4a65c 9 7 1 (.array (.object "java/lang/Object")) (some false) := ⟨RJx4a65c, TJx4a65c, 3, "java/util/ArrayList", tyJx4a65c, rfl, by decide, uc_Jx4a65c, tyJx4a65c_ok, nmJx4a65c, uw_73, Or.inl rfl, rfl, (fun _ => rfl), (fun h => by cases h)⟩
theorem uw_257 : Cond.methodLink "java/util/ArrayList" 73 ⟨"jdk/internal/util/ArraysSupport", "newLength", "(III)I"⟩ ∈ bp_UW := bp_uw 257 (by decide +kernel) (by decide +kernel)
theorem uw_34 : Cond.initialized "jdk/internal/util/ArraysSupport" ∈ bp_UW := bp_uw 34 (by decide +kernel) (by decide +kernel)
theorem uw_258 : Cond.static ⟨"jdk/internal/util/ArraysSupport", "newLength", "(III)I"⟩ ∈ bp_UW := bp_uw 258 (by decide +kernel) (by decide +kernel)
theorem ml_Jx4a65c_73 : bp_MS RJx4a65c 73 mJ8_newLength_cabcc 3 := ⟨⟨uw_257, uw_34, cw_J8_newLength_cabcc, ⟨by decide, by decide⟩, by decide +kernel⟩, uw_258⟩
theorem uw_267 : Cond.methodLink "java/util/ArrayList" 66 ⟨"java/util/Arrays", "copyOf", "([Ljava/lang/Object;I)[Ljava/lang/Object;"⟩ ∈ bp_UW := bp_uw 267 (by decide +kernel) (by decide +kernel)
theorem uw_36 : Cond.initialized "java/util/Arrays" ∈ bp_UW := bp_uw 36 (by decide +kernel) (by decide +kernel)
theorem uw_268 : Cond.static ⟨"java/util/Arrays", "copyOf", "([Ljava/lang/Object;I)[Ljava/lang/Object;"⟩ ∈ bp_UW := bp_uw 268 (by decide +kernel) (by decide +kernel)
theorem ml_Jx4a65c_66 : bp_MS RJx4a65c 66 mJ7_copyOf_1904c 2 := ⟨⟨uw_267, uw_36, cw_J7_copyOf_1904c, ⟨by decide, by decide⟩, by decide +kernel⟩, uw_268⟩
theorem uw_296 : Cond.methodLink "java/util/ArrayList" 79 ⟨"java/lang/Math", "max", "(II)I"⟩ ∈ bp_UW := bp_uw 296 (by decide +kernel) (by decide +kernel)
theorem ml_Jx4a65c_79 : Cond.methodLink "java/util/ArrayList" 79 ⟨"java/lang/Math", "max", "(II)I"⟩ ∈ bp_UW := uw_296
theorem uw_297 : Cond.classLink "java/util/ArrayList" 7 "java/lang/Object" ∈ bp_UW := bp_uw 297 (by decide +kernel) (by decide +kernel)
theorem cl_Jx4a65c_7 : Cond.classLink "java/util/ArrayList" 7 "java/lang/Object" ∈ bp_UW := uw_297
theorem uw_74 : Cond.fieldLink "java/util/ArrayList" 48 "java/util/ArrayList" "size" "I" ∈ bp_UW := bp_uw 74 (by decide +kernel) (by decide +kernel)
theorem fl_Jx4a65c_48 : bp_FL RJx4a65c 48 7 2 (.int) (some false) := ⟨RJx4a65c, TJx4a65c, 3, "java/util/ArrayList", tyJx4a65c, rfl, by decide, uc_Jx4a65c, tyJx4a65c_ok, nmJx4a65c, uw_74, Or.inl rfl, rfl, (fun _ => rfl), (fun h => by cases h)⟩
theorem uw_253 : Cond.methodLink "java/util/ArrayList" 69 ⟨"java/util/ArrayList", "grow", "(I)[Ljava/lang/Object;"⟩ ∈ bp_UW := bp_uw 253 (by decide +kernel) (by decide +kernel)
theorem uw_255 : Cond.instanceMethod ⟨"java/util/ArrayList", "grow", "(I)[Ljava/lang/Object;"⟩ ∈ bp_UW := bp_uw 255 (by decide +kernel) (by decide +kernel)
theorem uw_3 : Cond.selects "java/util/ArrayList" ⟨"java/util/ArrayList", "grow", "(I)[Ljava/lang/Object;"⟩ ⟨"java/util/ArrayList", "grow", "(I)[Ljava/lang/Object;"⟩ ∈ bp_UW := bp_uw 3 (by decide +kernel) (by decide +kernel)
theorem ml_Jx4a65c_69 : bp_MV RJx4a65c 69 mJx4a65c_grow_92f84 1 RJx4a65c := ⟨⟨uw_253, uw_27, cw_Jx4a65c_grow_92f84, ⟨by decide, by decide⟩, by decide +kernel⟩, rfl, uw_255, uw_3⟩
theorem uw_326 : Cond.methodLink "java/util/ArrayList" 118 ⟨"java/util/Objects", "checkIndex", "(II)I"⟩ ∈ bp_UW := bp_uw 326 (by decide +kernel) (by decide +kernel)
theorem uw_41 : Cond.initialized "java/util/Objects" ∈ bp_UW := bp_uw 41 (by decide +kernel) (by decide +kernel)
theorem uw_327 : Cond.static ⟨"java/util/Objects", "checkIndex", "(II)I"⟩ ∈ bp_UW := bp_uw 327 (by decide +kernel) (by decide +kernel)
theorem ml_Jx4a65c_118 : bp_MS RJx4a65c 118 mJ15_checkIndex_7cf53 2 := ⟨⟨uw_326, uw_41, cw_J15_checkIndex_7cf53, ⟨by decide, by decide⟩, by decide +kernel⟩, uw_327⟩
theorem uw_332 : Cond.methodLink "java/util/ArrayList" 123 ⟨"java/util/ArrayList", "elementData", "(I)Ljava/lang/Object;"⟩ ∈ bp_UW := bp_uw 332 (by decide +kernel) (by decide +kernel)
theorem uw_333 : Cond.instanceMethod ⟨"java/util/ArrayList", "elementData", "(I)Ljava/lang/Object;"⟩ ∈ bp_UW := bp_uw 333 (by decide +kernel) (by decide +kernel)
theorem uw_334 : Cond.selects "java/util/ArrayList" ⟨"java/util/ArrayList", "elementData", "(I)Ljava/lang/Object;"⟩ ⟨"java/util/ArrayList", "elementData", "(I)Ljava/lang/Object;"⟩ ∈ bp_UW := bp_uw 334 (by decide +kernel) (by decide +kernel)
theorem ml_Jx4a65c_123 : bp_MV RJx4a65c 123 mJx4a65c_elementData_915e3 1 RJx4a65c := ⟨⟨uw_332, uw_27, cw_Jx4a65c_elementData_915e3, ⟨by decide, by decide⟩, by decide +kernel⟩, rfl, uw_333, uw_334⟩
theorem uw_249 : Cond.methodLink "java/util/ArrayList" 129 ⟨"java/util/ArrayList", "grow", "()[Ljava/lang/Object;"⟩ ∈ bp_UW := bp_uw 249 (by decide +kernel) (by decide +kernel)
theorem uw_251 : Cond.instanceMethod ⟨"java/util/ArrayList", "grow", "()[Ljava/lang/Object;"⟩ ∈ bp_UW := bp_uw 251 (by decide +kernel) (by decide +kernel)
theorem uw_2 : Cond.selects "java/util/ArrayList" ⟨"java/util/ArrayList", "grow", "()[Ljava/lang/Object;"⟩ ⟨"java/util/ArrayList", "grow", "()[Ljava/lang/Object;"⟩ ∈ bp_UW := bp_uw 2 (by decide +kernel) (by decide +kernel)
theorem ml_Jx4a65c_129 : bp_MV RJx4a65c 129 mJx4a65c_grow_d5877 0 RJx4a65c := ⟨⟨uw_249, uw_27, cw_Jx4a65c_grow_d5877, ⟨by decide, by decide⟩, by decide +kernel⟩, rfl, uw_251, uw_2⟩
theorem uw_77 : Cond.sameField "java/util/ArrayList" "java/util/AbstractList" "modCount" "I" ∈ bp_UW := bp_uw 77 (by decide +kernel) (by decide +kernel)
theorem uw_76 : Cond.fieldLink "java/util/ArrayList" 63 "java/util/ArrayList" "modCount" "I" ∈ bp_UW := bp_uw 76 (by decide +kernel) (by decide +kernel)
theorem fl_Jx4a65c_63 : bp_FL RJx4a65c 63 7 0 (.int) (some false) := ⟨RJx4a65c, TJx4a65c, 3, "java/util/ArrayList", tyJx4a65c, rfl, by decide, uc_Jx4a65c, tyJx4a65c_ok, nmJx4a65c, uw_76, Or.inr uw_77, rfl, (fun _ => rfl), (fun h => by cases h)⟩
theorem uw_245 : Cond.methodLink "java/util/ArrayList" 131 ⟨"java/util/ArrayList", "add", "(Ljava/lang/Object;[Ljava/lang/Object;I)V"⟩ ∈ bp_UW := bp_uw 245 (by decide +kernel) (by decide +kernel)
theorem uw_247 : Cond.instanceMethod ⟨"java/util/ArrayList", "add", "(Ljava/lang/Object;[Ljava/lang/Object;I)V"⟩ ∈ bp_UW := bp_uw 247 (by decide +kernel) (by decide +kernel)
theorem uw_1 : Cond.selects "java/util/ArrayList" ⟨"java/util/ArrayList", "add", "(Ljava/lang/Object;[Ljava/lang/Object;I)V"⟩ ⟨"java/util/ArrayList", "add", "(Ljava/lang/Object;[Ljava/lang/Object;I)V"⟩ ∈ bp_UW := bp_uw 1 (by decide +kernel) (by decide +kernel)
theorem ml_Jx4a65c_131 : bp_MV RJx4a65c 131 mJx4a65c_add_72be8 3 RJx4a65c := ⟨⟨uw_245, uw_27, cw_Jx4a65c_add_72be8, ⟨by decide, by decide⟩, by decide +kernel⟩, rfl, uw_247, uw_1⟩
theorem uw_561 : Cond.methodLink "java/util/ArrayList" 135 ⟨"java/util/ArrayList", "rangeCheckForAdd", "(I)V"⟩ ∈ bp_UW := bp_uw 561 (by decide +kernel) (by decide +kernel)
theorem uw_563 : Cond.instanceMethod ⟨"java/util/ArrayList", "rangeCheckForAdd", "(I)V"⟩ ∈ bp_UW := bp_uw 563 (by decide +kernel) (by decide +kernel)
theorem uw_11 : Cond.selects "java/util/ArrayList" ⟨"java/util/ArrayList", "rangeCheckForAdd", "(I)V"⟩ ⟨"java/util/ArrayList", "rangeCheckForAdd", "(I)V"⟩ ∈ bp_UW := bp_uw 11 (by decide +kernel) (by decide +kernel)
theorem ml_Jx4a65c_135 : bp_MV RJx4a65c 135 mJx4a65c_rangeCheckForAdd_d00df 1 RJx4a65c := ⟨⟨uw_561, uw_27, cw_Jx4a65c_rangeCheckForAdd_d00df, ⟨by decide, by decide⟩, by decide +kernel⟩, rfl, uw_563, uw_11⟩
theorem uw_565 : Cond.methodLink "java/util/ArrayList" 112 ⟨"java/lang/System", "arraycopy", "(Ljava/lang/Object;ILjava/lang/Object;II)V"⟩ ∈ bp_UW := bp_uw 565 (by decide +kernel) (by decide +kernel)
theorem ml_Jx4a65c_112 : Cond.methodLink "java/util/ArrayList" 112 ⟨"java/lang/System", "arraycopy", "(Ljava/lang/Object;ILjava/lang/Object;II)V"⟩ ∈ bp_UW := uw_565
theorem uw_592 : Cond.methodLink "java/util/ArrayList" 144 ⟨"java/util/ArrayList", "fastRemove", "([Ljava/lang/Object;I)V"⟩ ∈ bp_UW := bp_uw 592 (by decide +kernel) (by decide +kernel)
theorem uw_594 : Cond.instanceMethod ⟨"java/util/ArrayList", "fastRemove", "([Ljava/lang/Object;I)V"⟩ ∈ bp_UW := bp_uw 594 (by decide +kernel) (by decide +kernel)
theorem uw_13 : Cond.selects "java/util/ArrayList" ⟨"java/util/ArrayList", "fastRemove", "([Ljava/lang/Object;I)V"⟩ ⟨"java/util/ArrayList", "fastRemove", "([Ljava/lang/Object;I)V"⟩ ∈ bp_UW := bp_uw 13 (by decide +kernel) (by decide +kernel)
theorem ml_Jx4a65c_144 : bp_MV RJx4a65c 144 mJx4a65c_fastRemove_b59b0 2 RJx4a65c := ⟨⟨uw_592, uw_27, cw_Jx4a65c_fastRemove_b59b0, ⟨by decide, by decide⟩, by decide +kernel⟩, rfl, uw_594, uw_13⟩
theorem uw_70 : Cond.methodLink "java/util/AbstractCollection" 1 ⟨"java/lang/Object", "<init>", "()V"⟩ ∈ bp_UW := bp_uw 70 (by decide +kernel) (by decide +kernel)
theorem ml_Jxa1e45_1 : Cond.methodLink "java/util/AbstractCollection" 1 ⟨"java/lang/Object", "<init>", "()V"⟩ ∈ bp_UW := uw_70
theorem uw_67 : Cond.methodLink "java/util/AbstractList" 1 ⟨"java/util/AbstractCollection", "<init>", "()V"⟩ ∈ bp_UW := bp_uw 67 (by decide +kernel) (by decide +kernel)
theorem uw_25 : Cond.initialized "java/util/AbstractCollection" ∈ bp_UW := bp_uw 25 (by decide +kernel) (by decide +kernel)
theorem uw_68 : Cond.instanceMethod ⟨"java/util/AbstractCollection", "<init>", "()V"⟩ ∈ bp_UW := bp_uw 68 (by decide +kernel) (by decide +kernel)
theorem ml_Jxc12de_1 : bp_MI RJxc12de 1 mJxa1e45_init_da8c8 0 := ⟨⟨uw_67, uw_25, cw_Jxa1e45_init_da8c8, ⟨by decide, by decide⟩, by decide +kernel⟩, rfl, rfl, rfl, uw_68⟩
theorem uw_75 : Cond.fieldLink "java/util/AbstractList" 7 "java/util/AbstractList" "modCount" "I" ∈ bp_UW := bp_uw 75 (by decide +kernel) (by decide +kernel)
theorem fl_Jxc12de_7 : bp_FL RJxc12de 7 7 0 (.int) (some false) := ⟨RJx4a65c, TJx4a65c, 3, "java/util/AbstractList", tyJx4a65c, rfl, by decide, uc_Jx4a65c, tyJx4a65c_ok, nmJx4a65c, uw_75, Or.inl rfl, rfl, (fun _ => rfl), (fun h => by cases h)⟩
theorem uw_329 : Cond.methodLink "java/util/Objects" 105 ⟨"jdk/internal/util/Preconditions", "checkIndex", "(IILjava/util/function/BiFunction;)I"⟩ ∈ bp_UW := bp_uw 329 (by decide +kernel) (by decide +kernel)
theorem uw_42 : Cond.initialized "jdk/internal/util/Preconditions" ∈ bp_UW := bp_uw 42 (by decide +kernel) (by decide +kernel)
theorem uw_330 : Cond.static ⟨"jdk/internal/util/Preconditions", "checkIndex", "(IILjava/util/function/BiFunction;)I"⟩ ∈ bp_UW := bp_uw 330 (by decide +kernel) (by decide +kernel)
theorem ml_J15_105 : bp_MS RJ15 105 mJ3_checkIndex_8e157 3 := ⟨⟨uw_329, uw_42, cw_J3_checkIndex_8e157, ⟨by decide, by decide⟩, by decide +kernel⟩, uw_330⟩
theorem uw_260 : Cond.methodLink "jdk/internal/util/ArraysSupport" 194 ⟨"java/lang/Math", "max", "(II)I"⟩ ∈ bp_UW := bp_uw 260 (by decide +kernel) (by decide +kernel)
theorem ml_J8_194 : Cond.methodLink "jdk/internal/util/ArraysSupport" 194 ⟨"java/lang/Math", "max", "(II)I"⟩ ∈ bp_UW := uw_260
theorem uw_263 : Cond.constant "jdk/internal/util/ArraysSupport" 200 (2147483639 : Int32) ∈ bp_UW := bp_uw 263 (by decide +kernel) (by decide +kernel)
theorem kc_J8_200 : Cond.constant "jdk/internal/util/ArraysSupport" 200 (2147483639 : Int32) ∈ bp_UW := uw_263
theorem uw_289 : Cond.classLink "java/util/Arrays" 2 "java/lang/Object" ∈ bp_UW := bp_uw 289 (by decide +kernel) (by decide +kernel)
theorem cl_J7_2 : Cond.classLink "java/util/Arrays" 2 "java/lang/Object" ∈ bp_UW := uw_289
theorem uw_287 : Cond.classLink "java/util/Arrays" 110 "[Ljava/lang/Object;" ∈ bp_UW := bp_uw 287 (by decide +kernel) (by decide +kernel)
theorem cl_J7_110 : Cond.classLink "java/util/Arrays" 110 "[Ljava/lang/Object;" ∈ bp_UW := uw_287
theorem uw_290 : Cond.methodLink "java/util/Arrays" 304 ⟨"java/lang/Math", "min", "(II)I"⟩ ∈ bp_UW := bp_uw 290 (by decide +kernel) (by decide +kernel)
theorem ml_J7_304 : Cond.methodLink "java/util/Arrays" 304 ⟨"java/lang/Math", "min", "(II)I"⟩ ∈ bp_UW := uw_290
theorem uw_293 : Cond.methodLink "java/util/Arrays" 150 ⟨"java/lang/System", "arraycopy", "(Ljava/lang/Object;ILjava/lang/Object;II)V"⟩ ∈ bp_UW := bp_uw 293 (by decide +kernel) (by decide +kernel)
theorem ml_J7_150 : Cond.methodLink "java/util/Arrays" 150 ⟨"java/lang/System", "arraycopy", "(Ljava/lang/Object;ILjava/lang/Object;II)V"⟩ ∈ bp_UW := uw_293
theorem uw_270 : Cond.methodLink "java/util/Arrays" 86 ⟨"java/lang/Object", "getClass", "()Ljava/lang/Class;"⟩ ∈ bp_UW := bp_uw 270 (by decide +kernel) (by decide +kernel)
theorem ml_J7_86 : Cond.methodLink "java/util/Arrays" 86 ⟨"java/lang/Object", "getClass", "()Ljava/lang/Class;"⟩ ∈ bp_UW := uw_270
theorem uw_284 : Cond.methodLink "java/util/Arrays" 300 ⟨"java/util/Arrays", "copyOf", "([Ljava/lang/Object;ILjava/lang/Class;)[Ljava/lang/Object;"⟩ ∈ bp_UW := bp_uw 284 (by decide +kernel) (by decide +kernel)
theorem uw_285 : Cond.static ⟨"java/util/Arrays", "copyOf", "([Ljava/lang/Object;ILjava/lang/Class;)[Ljava/lang/Object;"⟩ ∈ bp_UW := bp_uw 285 (by decide +kernel) (by decide +kernel)
theorem ml_J7_300 : bp_MS RJ7 300 mJ7_copyOf_6403c 3 := ⟨⟨uw_284, uw_36, cw_J7_copyOf_6403c, ⟨by decide, by decide⟩, by decide +kernel⟩, uw_285⟩
theorem uw_51 : Cond.instanceMethod ⟨"java/lang/Object", "<init>", "()V"⟩ ∈ bp_UW := bp_uw 51 (by decide +kernel) (by decide +kernel)
theorem ow_1 : Cond.instanceMethod Lib.objectInit ∈ bp_UW := uw_51
theorem ow_2 : Cond.code Lib.objectInit ⟨#[0xb1]⟩ 1 none ∈ bp_UW := bp_uw 52 (by decide +kernel) (by decide +kernel)
theorem uw_261 : Cond.static ⟨"java/lang/Math", "max", "(II)I"⟩ ∈ bp_UW := bp_uw 261 (by decide +kernel) (by decide +kernel)
theorem uw_35 : Cond.initialized "java/lang/Math" ∈ bp_UW := bp_uw 35 (by decide +kernel) (by decide +kernel)
theorem mw_max : Cond.static Lib.Math.max.name ∈ bp_UW ∧ Cond.initialized "java/lang/Math" ∈ bp_UW ∧ Cond.code Lib.Math.max.name Lib.Math.max.code 2 (some .int) ∈ bp_UW := ⟨uw_261, uw_35, bp_uw 262 (by decide +kernel) (by decide +kernel)⟩
theorem uw_291 : Cond.static ⟨"java/lang/Math", "min", "(II)I"⟩ ∈ bp_UW := bp_uw 291 (by decide +kernel) (by decide +kernel)
theorem mw_min : Cond.static Lib.Math.min.name ∈ bp_UW ∧ Cond.initialized "java/lang/Math" ∈ bp_UW ∧ Cond.code Lib.Math.min.name Lib.Math.min.code 2 (some .int) ∈ bp_UW := ⟨uw_291, uw_35, bp_uw 292 (by decide +kernel) (by decide +kernel)⟩
theorem aw_0 : Cond.arrayClass (bp_ty 0) ∈ bp_UW := by decide +kernel
theorem aw_1 : Cond.arrayClass (bp_ty 1) ∈ bp_UW := by decide +kernel
theorem aw_2 : Cond.arrayClass (bp_ty 2) ∈ bp_UW := by decide +kernel
theorem uw_742 : Cond.castable "Boreplan$Job" "java/lang/Object" ∈ bp_UW := bp_uw 742 (by decide +kernel) (by decide +kernel)
theorem an_0 : bp_any 0 := ⟨RX0, TX0, 5, rfl, uw_742⟩
theorem uw_740 : Cond.castable "Boreplan$Machine" "java/lang/Object" ∈ bp_UW := bp_uw 740 (by decide +kernel) (by decide +kernel)
theorem an_1 : bp_any 1 := ⟨RX1, TX1, 7, rfl, uw_740⟩
theorem uw_744 : Cond.castable "Boreplan$Operation" "java/lang/Object" ∈ bp_UW := bp_uw 744 (by decide +kernel) (by decide +kernel)
theorem an_2 : bp_any 2 := ⟨RX2, TX2, 14, rfl, uw_744⟩
theorem ta_26_30 : ∀ w ∈ vx_atS RX5 30 "java/lang/IllegalStateException" ["java/lang/RuntimeException", "java/lang/Exception"], w ∈ bp_UW := by
  have h1 : ((vx_atS RX5 30 "java/lang/IllegalStateException" ["java/lang/RuntimeException", "java/lang/Exception"]).all (fun w => decide (w ∈ lw_tbl) && bp_good w)) = true := by decide +kernel
  intro w hw
  have h2 := List.all_eq_true.mp h1 w hw
  simp only [Bool.and_eq_true, decide_eq_true_eq] at h2
  exact List.mem_filter.mpr h2
theorem tb_26_30 : ∀ w ∈ Cond.classLink RX5 26 "java/lang/IllegalStateException" :: Cond.initialized "java/lang/IllegalStateException" :: vx_atS RX5 30 "java/lang/IllegalStateException" ["java/lang/RuntimeException", "java/lang/Exception"], vx_ot w = true := by
  have h1 : ((Cond.classLink RX5 26 "java/lang/IllegalStateException" :: Cond.initialized "java/lang/IllegalStateException" :: vx_atS RX5 30 "java/lang/IllegalStateException" ["java/lang/RuntimeException", "java/lang/Exception"]).all vx_ot) = true := by decide +kernel
  exact List.all_eq_true.mp h1
theorem uw_135 : Cond.classLink "Boreplan" 26 "java/lang/IllegalStateException" ∈ bp_UW := bp_uw 135 (by decide +kernel) (by decide +kernel)
theorem uw_32 : Cond.initialized "java/lang/IllegalStateException" ∈ bp_UW := bp_uw 32 (by decide +kernel) (by decide +kernel)
theorem tw_26_28_30 : bp_TW RX5 26 28 30 "java/lang/IllegalStateException" "there are 4 machines" ["java/lang/RuntimeException", "java/lang/Exception"] := ⟨by decide +kernel, by decide +kernel, by decide, uw_135, uw_32, by decide +kernel, ta_26_30, tb_26_30⟩
theorem ta_44_48 : ∀ w ∈ vx_atS RX5 48 "java/lang/IllegalArgumentException" ["java/lang/RuntimeException", "java/lang/Exception"], w ∈ bp_UW := by
  have h1 : ((vx_atS RX5 48 "java/lang/IllegalArgumentException" ["java/lang/RuntimeException", "java/lang/Exception"]).all (fun w => decide (w ∈ lw_tbl) && bp_good w)) = true := by decide +kernel
  intro w hw
  have h2 := List.all_eq_true.mp h1 w hw
  simp only [Bool.and_eq_true, decide_eq_true_eq] at h2
  exact List.mem_filter.mpr h2
theorem tb_44_48 : ∀ w ∈ Cond.classLink RX5 44 "java/lang/IllegalArgumentException" :: Cond.initialized "java/lang/IllegalArgumentException" :: vx_atS RX5 48 "java/lang/IllegalArgumentException" ["java/lang/RuntimeException", "java/lang/Exception"], vx_ot w = true := by
  have h1 : ((Cond.classLink RX5 44 "java/lang/IllegalArgumentException" :: Cond.initialized "java/lang/IllegalArgumentException" :: vx_atS RX5 48 "java/lang/IllegalArgumentException" ["java/lang/RuntimeException", "java/lang/Exception"]).all vx_ot) = true := by decide +kernel
  exact List.all_eq_true.mp h1
theorem uw_336 : Cond.classLink "Boreplan" 44 "java/lang/IllegalArgumentException" ∈ bp_UW := bp_uw 336 (by decide +kernel) (by decide +kernel)
theorem uw_38 : Cond.initialized "java/lang/IllegalArgumentException" ∈ bp_UW := bp_uw 38 (by decide +kernel) (by decide +kernel)
theorem tw_44_46_48 : bp_TW RX5 44 46 48 "java/lang/IllegalArgumentException" "capacity is out of range" ["java/lang/RuntimeException", "java/lang/Exception"] := ⟨by decide +kernel, by decide +kernel, by decide, uw_336, uw_38, by decide +kernel, ta_44_48, tb_44_48⟩
theorem tw_26_53_30 : bp_TW RX5 26 53 30 "java/lang/IllegalStateException" "an operation needs more tools" ["java/lang/RuntimeException", "java/lang/Exception"] := ⟨by decide +kernel, by decide +kernel, by decide, uw_135, uw_32, by decide +kernel, ta_26_30, tb_26_30⟩
theorem tw_44_58_48 : bp_TW RX5 44 58 48 "java/lang/IllegalArgumentException" "from is out of range" ["java/lang/RuntimeException", "java/lang/Exception"] := ⟨by decide +kernel, by decide +kernel, by decide, uw_336, uw_38, by decide +kernel, ta_44_48, tb_44_48⟩
theorem tw_44_60_48 : bp_TW RX5 44 60 48 "java/lang/IllegalArgumentException" "to is out of range" ["java/lang/RuntimeException", "java/lang/Exception"] := ⟨by decide +kernel, by decide +kernel, by decide, uw_336, uw_38, by decide +kernel, ta_44_48, tb_44_48⟩
theorem tw_44_79_48 : bp_TW RX5 44 79 48 "java/lang/IllegalArgumentException" "due is out of range" ["java/lang/RuntimeException", "java/lang/Exception"] := ⟨by decide +kernel, by decide +kernel, by decide, uw_336, uw_38, by decide +kernel, ta_44_48, tb_44_48⟩
theorem tw_26_84_30 : bp_TW RX5 26 84 30 "java/lang/IllegalStateException" "there are 8 jobs" ["java/lang/RuntimeException", "java/lang/Exception"] := ⟨by decide +kernel, by decide +kernel, by decide, uw_135, uw_32, by decide +kernel, ta_26_30, tb_26_30⟩
theorem tw_44_95_48 : bp_TW RX5 44 95 48 "java/lang/IllegalArgumentException" "length is out of range" ["java/lang/RuntimeException", "java/lang/Exception"] := ⟨by decide +kernel, by decide +kernel, by decide, uw_336, uw_38, by decide +kernel, ta_44_48, tb_44_48⟩
theorem tw_44_97_48 : bp_TW RX5 44 97 48 "java/lang/IllegalArgumentException" "family is out of range" ["java/lang/RuntimeException", "java/lang/Exception"] := ⟨by decide +kernel, by decide +kernel, by decide, uw_336, uw_38, by decide +kernel, ta_44_48, tb_44_48⟩
theorem tw_44_99_48 : bp_TW RX5 44 99 48 "java/lang/IllegalArgumentException" "tools is out of range" ["java/lang/RuntimeException", "java/lang/Exception"] := ⟨by decide +kernel, by decide +kernel, by decide, uw_336, uw_38, by decide +kernel, ta_44_48, tb_44_48⟩
theorem tw_26_104_30 : bp_TW RX5 26 104 30 "java/lang/IllegalStateException" "the job has 4 operations" ["java/lang/RuntimeException", "java/lang/Exception"] := ⟨by decide +kernel, by decide +kernel, by decide, uw_135, uw_32, by decide +kernel, ta_26_30, tb_26_30⟩
theorem tw_26_109_30 : bp_TW RX5 26 109 30 "java/lang/IllegalStateException" "the job is placed" ["java/lang/RuntimeException", "java/lang/Exception"] := ⟨by decide +kernel, by decide +kernel, by decide, uw_135, uw_32, by decide +kernel, ta_26_30, tb_26_30⟩
theorem tw_26_117_30 : bp_TW RX5 26 117 30 "java/lang/IllegalStateException" "the magazine is too small for the tools" ["java/lang/RuntimeException", "java/lang/Exception"] := ⟨by decide +kernel, by decide +kernel, by decide, uw_135, uw_32, by decide +kernel, ta_26_30, tb_26_30⟩
theorem ta_123_127 : ∀ w ∈ vx_atS RX5 127 "java/lang/IndexOutOfBoundsException" ["java/lang/RuntimeException", "java/lang/Exception"], w ∈ bp_UW := by
  have h1 : ((vx_atS RX5 127 "java/lang/IndexOutOfBoundsException" ["java/lang/RuntimeException", "java/lang/Exception"]).all (fun w => decide (w ∈ lw_tbl) && bp_good w)) = true := by decide +kernel
  intro w hw
  have h2 := List.all_eq_true.mp h1 w hw
  simp only [Bool.and_eq_true, decide_eq_true_eq] at h2
  exact List.mem_filter.mpr h2
theorem tb_123_127 : ∀ w ∈ Cond.classLink RX5 123 "java/lang/IndexOutOfBoundsException" :: Cond.initialized "java/lang/IndexOutOfBoundsException" :: vx_atS RX5 127 "java/lang/IndexOutOfBoundsException" ["java/lang/RuntimeException", "java/lang/Exception"], vx_ot w = true := by
  have h1 : ((Cond.classLink RX5 123 "java/lang/IndexOutOfBoundsException" :: Cond.initialized "java/lang/IndexOutOfBoundsException" :: vx_atS RX5 127 "java/lang/IndexOutOfBoundsException" ["java/lang/RuntimeException", "java/lang/Exception"]).all vx_ot) = true := by decide +kernel
  exact List.all_eq_true.mp h1
theorem uw_306 : Cond.classLink "Boreplan" 123 "java/lang/IndexOutOfBoundsException" ∈ bp_UW := bp_uw 306 (by decide +kernel) (by decide +kernel)
theorem uw_40 : Cond.initialized "java/lang/IndexOutOfBoundsException" ∈ bp_UW := bp_uw 40 (by decide +kernel) (by decide +kernel)
theorem tw_123_125_127 : bp_TW RX5 123 125 127 "java/lang/IndexOutOfBoundsException" "no such family" ["java/lang/RuntimeException", "java/lang/Exception"] := ⟨by decide +kernel, by decide +kernel, by decide, uw_306, uw_40, by decide +kernel, ta_123_127, tb_123_127⟩
theorem tw_44_128_48 : bp_TW RX5 44 128 48 "java/lang/IllegalArgumentException" "minutes is out of range" ["java/lang/RuntimeException", "java/lang/Exception"] := ⟨by decide +kernel, by decide +kernel, by decide, uw_336, uw_38, by decide +kernel, ta_44_48, tb_44_48⟩
theorem tw_123_179_127 : bp_TW RX5 123 179 127 "java/lang/IndexOutOfBoundsException" "no such place" ["java/lang/RuntimeException", "java/lang/Exception"] := ⟨by decide +kernel, by decide +kernel, by decide, uw_306, uw_40, by decide +kernel, ta_123_127, tb_123_127⟩
theorem tw_123_228_127 : bp_TW RX5 123 228 127 "java/lang/IndexOutOfBoundsException" "no such machine" ["java/lang/RuntimeException", "java/lang/Exception"] := ⟨by decide +kernel, by decide +kernel, by decide, uw_306, uw_40, by decide +kernel, ta_123_127, tb_123_127⟩
theorem tw_123_230_127 : bp_TW RX5 123 230 127 "java/lang/IndexOutOfBoundsException" "no such job" ["java/lang/RuntimeException", "java/lang/Exception"] := ⟨by decide +kernel, by decide +kernel, by decide, uw_306, uw_40, by decide +kernel, ta_123_127, tb_123_127⟩
theorem tw_26_232_30 : bp_TW RX5 26 232 30 "java/lang/IllegalStateException" "the job is not placed" ["java/lang/RuntimeException", "java/lang/Exception"] := ⟨by decide +kernel, by decide +kernel, by decide, uw_135, uw_32, by decide +kernel, ta_26_30, tb_26_30⟩
theorem tw_26_237_30 : bp_TW RX5 26 237 30 "java/lang/IllegalStateException" "the job has no operations" ["java/lang/RuntimeException", "java/lang/Exception"] := ⟨by decide +kernel, by decide +kernel, by decide, uw_135, uw_32, by decide +kernel, ta_26_30, tb_26_30⟩
theorem tw_123_239_127 : bp_TW RX5 123 239 127 "java/lang/IndexOutOfBoundsException" "no such operation" ["java/lang/RuntimeException", "java/lang/Exception"] := ⟨by decide +kernel, by decide +kernel, by decide, uw_306, uw_40, by decide +kernel, ta_123_127, tb_123_127⟩
