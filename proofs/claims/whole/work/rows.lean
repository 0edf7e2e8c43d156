section
/-- an array class over arrays of that type (the printed names use it; the kit's worlds lack it) -/
def va_AOA (t : FieldType) (U : State) : Prop := (Cond.arrayOver (.array t)).before #[] U = true
theorem va_AOA.of {t : FieldType} {A : Array Value} {U : State} (h : (Cond.arrayOver (.array t)).before A U = true) : va_AOA t U := h
theorem va_AOA.use {t : FieldType} {A : Array Value} {U : State} (h : va_AOA t U) : (Cond.arrayOver (.array t)).before A U = true := h
-- ===== PART A: goes FIRST, ahead of the names: the tables' words, and 'selects' of the private methods out of them =====
/-- a private method of a class that the tables say can be made, by its rows of tables_1 -/
def lw_okq (q : MethodName × Nat) : Prop := (q.1.cls ≠ "java/lang/invoke/MethodHandle" ∧ q.1.cls ≠ "java/lang/invoke/VarHandle") ∧ Cond.instantiable q.1.cls q.2 ∈ tables_1 ∧ Cond.privateMethod q.1 ∈ tables_1 ∧ Cond.instanceMethod q.1 ∈ tables_1
theorem lw_p0 : lw_okq (⟨"Boreplan$Shop", "lastOfPath", "()LBoreplan$Operation;"⟩, 6) := ⟨⟨by decide +kernel, by decide +kernel⟩, List.mem_of_getElem? (i := 39) (by decide +kernel), List.mem_of_getElem? (i := 129) (by decide +kernel), List.mem_of_getElem? (i := 130) (by decide +kernel)⟩
theorem lw_p1 : lw_okq (⟨"java/util/ArrayList", "add", "(Ljava/lang/Object;[Ljava/lang/Object;I)V"⟩, 3) := ⟨⟨by decide +kernel, by decide +kernel⟩, List.mem_of_getElem? (i := 45) (by decide +kernel), List.mem_of_getElem? (i := 157) (by decide +kernel), List.mem_of_getElem? (i := 158) (by decide +kernel)⟩
theorem lw_p2 : lw_okq (⟨"java/util/ArrayList", "grow", "()[Ljava/lang/Object;"⟩, 3) := ⟨⟨by decide +kernel, by decide +kernel⟩, List.mem_of_getElem? (i := 45) (by decide +kernel), List.mem_of_getElem? (i := 161) (by decide +kernel), List.mem_of_getElem? (i := 162) (by decide +kernel)⟩
theorem lw_p3 : lw_okq (⟨"java/util/ArrayList", "grow", "(I)[Ljava/lang/Object;"⟩, 3) := ⟨⟨by decide +kernel, by decide +kernel⟩, List.mem_of_getElem? (i := 45) (by decide +kernel), List.mem_of_getElem? (i := 165) (by decide +kernel), List.mem_of_getElem? (i := 166) (by decide +kernel)⟩
theorem lw_p4 : lw_okq (⟨"Boreplan$Shop", "aheadOnPath", "(LBoreplan$Operation;)LBoreplan$Operation;"⟩, 6) := ⟨⟨by decide +kernel, by decide +kernel⟩, List.mem_of_getElem? (i := 39) (by decide +kernel), List.mem_of_getElem? (i := 213) (by decide +kernel), List.mem_of_getElem? (i := 214) (by decide +kernel)⟩
theorem lw_p5 : lw_okq (⟨"java/lang/Throwable", "fillInStackTrace", "(I)Ljava/lang/Throwable;"⟩, 6) := ⟨⟨by decide +kernel, by decide +kernel⟩, List.mem_of_getElem? (i := 268) (by decide +kernel), List.mem_of_getElem? (i := 266) (by decide +kernel), List.mem_of_getElem? (i := 267) (by decide +kernel)⟩
theorem lw_p6 : lw_okq (⟨"Boreplan", "knownMachine", "(I)LBoreplan$Machine;"⟩, 1) := ⟨⟨by decide +kernel, by decide +kernel⟩, List.mem_of_getElem? (i := 31) (by decide +kernel), List.mem_of_getElem? (i := 346) (by decide +kernel), List.mem_of_getElem? (i := 347) (by decide +kernel)⟩
theorem lw_p7 : lw_okq (⟨"Boreplan$Shop", "begin", "()I"⟩, 6) := ⟨⟨by decide +kernel, by decide +kernel⟩, List.mem_of_getElem? (i := 39) (by decide +kernel), List.mem_of_getElem? (i := 397) (by decide +kernel), List.mem_of_getElem? (i := 398) (by decide +kernel)⟩
theorem lw_p8 : lw_okq (⟨"Boreplan$Shop", "timeRow", "(LBoreplan$Machine;)V"⟩, 6) := ⟨⟨by decide +kernel, by decide +kernel⟩, List.mem_of_getElem? (i := 39) (by decide +kernel), List.mem_of_getElem? (i := 402) (by decide +kernel), List.mem_of_getElem? (i := 403) (by decide +kernel)⟩
theorem lw_p9 : lw_okq (⟨"Boreplan$Shop", "timeOne", "(LBoreplan$Operation;)V"⟩, 6) := ⟨⟨by decide +kernel, by decide +kernel⟩, List.mem_of_getElem? (i := 39) (by decide +kernel), List.mem_of_getElem? (i := 406) (by decide +kernel), List.mem_of_getElem? (i := 407) (by decide +kernel)⟩
theorem lw_p10 : lw_okq (⟨"Boreplan$Machine", "isBrokenDuring", "(II)Z"⟩, 7) := ⟨⟨by decide +kernel, by decide +kernel⟩, List.mem_of_getElem? (i := 298) (by decide +kernel), List.mem_of_getElem? (i := 415) (by decide +kernel), List.mem_of_getElem? (i := 416) (by decide +kernel)⟩
theorem lw_p11 : lw_okq (⟨"Boreplan", "knownJob", "(I)LBoreplan$Job;"⟩, 1) := ⟨⟨by decide +kernel, by decide +kernel⟩, List.mem_of_getElem? (i := 31) (by decide +kernel), List.mem_of_getElem? (i := 471) (by decide +kernel), List.mem_of_getElem? (i := 472) (by decide +kernel)⟩
theorem lw_p12 : lw_okq (⟨"Boreplan", "waitingJob", "(I)LBoreplan$Job;"⟩, 1) := ⟨⟨by decide +kernel, by decide +kernel⟩, List.mem_of_getElem? (i := 31) (by decide +kernel), List.mem_of_getElem? (i := 579) (by decide +kernel), List.mem_of_getElem? (i := 580) (by decide +kernel)⟩
theorem lw_p13 : lw_okq (⟨"java/util/ArrayList", "rangeCheckForAdd", "(I)V"⟩, 3) := ⟨⟨by decide +kernel, by decide +kernel⟩, List.mem_of_getElem? (i := 45) (by decide +kernel), List.mem_of_getElem? (i := 597) (by decide +kernel), List.mem_of_getElem? (i := 598) (by decide +kernel)⟩
theorem lw_p14 : lw_okq (⟨"java/util/ArrayList", "outOfBoundsMsg", "(I)Ljava/lang/String;"⟩, 3) := ⟨⟨by decide +kernel, by decide +kernel⟩, List.mem_of_getElem? (i := 45) (by decide +kernel), List.mem_of_getElem? (i := 602) (by decide +kernel), List.mem_of_getElem? (i := 603) (by decide +kernel)⟩
theorem lw_p15 : lw_okq (⟨"Boreplan$Machine", "link", "()V"⟩, 7) := ⟨⟨by decide +kernel, by decide +kernel⟩, List.mem_of_getElem? (i := 298) (by decide +kernel), List.mem_of_getElem? (i := 839) (by decide +kernel), List.mem_of_getElem? (i := 840) (by decide +kernel)⟩
def lw_privs_1 : List (MethodName × Nat) := [(⟨"Boreplan$Shop", "lastOfPath", "()LBoreplan$Operation;"⟩, 6), (⟨"java/util/ArrayList", "add", "(Ljava/lang/Object;[Ljava/lang/Object;I)V"⟩, 3), (⟨"java/util/ArrayList", "grow", "()[Ljava/lang/Object;"⟩, 3), (⟨"java/util/ArrayList", "grow", "(I)[Ljava/lang/Object;"⟩, 3), (⟨"Boreplan$Shop", "aheadOnPath", "(LBoreplan$Operation;)LBoreplan$Operation;"⟩, 6), (⟨"java/lang/Throwable", "fillInStackTrace", "(I)Ljava/lang/Throwable;"⟩, 6), (⟨"Boreplan", "knownMachine", "(I)LBoreplan$Machine;"⟩, 1), (⟨"Boreplan$Shop", "begin", "()I"⟩, 6), (⟨"Boreplan$Shop", "timeRow", "(LBoreplan$Machine;)V"⟩, 6), (⟨"Boreplan$Shop", "timeOne", "(LBoreplan$Operation;)V"⟩, 6), (⟨"Boreplan$Machine", "isBrokenDuring", "(II)Z"⟩, 7), (⟨"Boreplan", "knownJob", "(I)LBoreplan$Job;"⟩, 1), (⟨"Boreplan", "waitingJob", "(I)LBoreplan$Job;"⟩, 1), (⟨"java/util/ArrayList", "rangeCheckForAdd", "(I)V"⟩, 3), (⟨"java/util/ArrayList", "outOfBoundsMsg", "(I)Ljava/lang/String;"⟩, 3), (⟨"Boreplan$Machine", "link", "()V"⟩, 7)]
theorem lw_r1 : ∀ q ∈ lw_privs_1, lw_okq q := List.forall_mem_cons.mpr ⟨lw_p0, List.forall_mem_cons.mpr ⟨lw_p1, List.forall_mem_cons.mpr ⟨lw_p2, List.forall_mem_cons.mpr ⟨lw_p3, List.forall_mem_cons.mpr ⟨lw_p4, List.forall_mem_cons.mpr ⟨lw_p5, List.forall_mem_cons.mpr ⟨lw_p6, List.forall_mem_cons.mpr ⟨lw_p7, List.forall_mem_cons.mpr ⟨lw_p8, List.forall_mem_cons.mpr ⟨lw_p9, List.forall_mem_cons.mpr ⟨lw_p10, List.forall_mem_cons.mpr ⟨lw_p11, List.forall_mem_cons.mpr ⟨lw_p12, List.forall_mem_cons.mpr ⟨lw_p13, List.forall_mem_cons.mpr ⟨lw_p14, List.forall_mem_cons.mpr ⟨lw_p15, fun _ h => absurd h List.not_mem_nil⟩⟩⟩⟩⟩⟩⟩⟩⟩⟩⟩⟩⟩⟩⟩⟩
theorem lw_p16 : lw_okq (⟨"java/util/ArrayList", "fastRemove", "([Ljava/lang/Object;I)V"⟩, 3) := ⟨⟨by decide +kernel, by decide +kernel⟩, List.mem_of_getElem? (i := 45) (by decide +kernel), List.mem_of_getElem? (i := 868) (by decide +kernel), List.mem_of_getElem? (i := 869) (by decide +kernel)⟩
theorem lw_p17 : lw_okq (⟨"Boreplan", "placedJob", "(I)LBoreplan$Job;"⟩, 1) := ⟨⟨by decide +kernel, by decide +kernel⟩, List.mem_of_getElem? (i := 31) (by decide +kernel), List.mem_of_getElem? (i := 879) (by decide +kernel), List.mem_of_getElem? (i := 880) (by decide +kernel)⟩
theorem lw_p18 : lw_okq (⟨"Boreplan", "placedOperation", "(II)LBoreplan$Operation;"⟩, 1) := ⟨⟨by decide +kernel, by decide +kernel⟩, List.mem_of_getElem? (i := 31) (by decide +kernel), List.mem_of_getElem? (i := 931) (by decide +kernel), List.mem_of_getElem? (i := 932) (by decide +kernel)⟩
theorem lw_p19 : lw_okq (⟨"Boreplan$Shop", "putRowLater", "(LBoreplan$Machine;)Z"⟩, 6) := ⟨⟨by decide +kernel, by decide +kernel⟩, List.mem_of_getElem? (i := 39) (by decide +kernel), List.mem_of_getElem? (i := 947) (by decide +kernel), List.mem_of_getElem? (i := 948) (by decide +kernel)⟩
theorem lw_p20 : lw_okq (⟨"Boreplan$Shop", "readyInRounds", "(LBoreplan$Operation;)I"⟩, 6) := ⟨⟨by decide +kernel, by decide +kernel⟩, List.mem_of_getElem? (i := 39) (by decide +kernel), List.mem_of_getElem? (i := 951) (by decide +kernel), List.mem_of_getElem? (i := 952) (by decide +kernel)⟩
theorem lw_p21 : lw_okq (⟨"Boreplan$Shop", "latestFinish", "(LBoreplan$Operation;)I"⟩, 6) := ⟨⟨by decide +kernel, by decide +kernel⟩, List.mem_of_getElem? (i := 39) (by decide +kernel), List.mem_of_getElem? (i := 974) (by decide +kernel), List.mem_of_getElem? (i := 975) (by decide +kernel)⟩
theorem lw_p22 : lw_okq (⟨"Boreplan$Machine", "neededLast", "(II)I"⟩, 7) := ⟨⟨by decide +kernel, by decide +kernel⟩, List.mem_of_getElem? (i := 298) (by decide +kernel), List.mem_of_getElem? (i := 1017) (by decide +kernel), List.mem_of_getElem? (i := 1018) (by decide +kernel)⟩
theorem lw_p23 : lw_okq (⟨"BoreplanModel", "isMachine", "(I)Z"⟩, 25) := ⟨⟨by decide +kernel, by decide +kernel⟩, List.mem_of_getElem? (i := 1021) (by decide +kernel), List.mem_of_getElem? (i := 1116) (by decide +kernel), List.mem_of_getElem? (i := 1117) (by decide +kernel)⟩
theorem lw_p24 : lw_okq (⟨"BoreplanModel", "spanOf", "()I"⟩, 25) := ⟨⟨by decide +kernel, by decide +kernel⟩, List.mem_of_getElem? (i := 1021) (by decide +kernel), List.mem_of_getElem? (i := 1130) (by decide +kernel), List.mem_of_getElem? (i := 1131) (by decide +kernel)⟩
theorem lw_p25 : lw_okq (⟨"BoreplanModel", "works", "()Z"⟩, 25) := ⟨⟨by decide +kernel, by decide +kernel⟩, List.mem_of_getElem? (i := 1021) (by decide +kernel), List.mem_of_getElem? (i := 1134) (by decide +kernel), List.mem_of_getElem? (i := 1135) (by decide +kernel)⟩
theorem lw_p26 : lw_okq (⟨"BoreplanModel", "lays", "()V"⟩, 25) := ⟨⟨by decide +kernel, by decide +kernel⟩, List.mem_of_getElem? (i := 1021) (by decide +kernel), List.mem_of_getElem? (i := 1138) (by decide +kernel), List.mem_of_getElem? (i := 1139) (by decide +kernel)⟩
theorem lw_p27 : lw_okq (⟨"BoreplanModel", "waits", "(I)I"⟩, 25) := ⟨⟨by decide +kernel, by decide +kernel⟩, List.mem_of_getElem? (i := 1021) (by decide +kernel), List.mem_of_getElem? (i := 1142) (by decide +kernel), List.mem_of_getElem? (i := 1143) (by decide +kernel)⟩
theorem lw_p28 : lw_okq (⟨"BoreplanModel", "beside", "(II)I"⟩, 25) := ⟨⟨by decide +kernel, by decide +kernel⟩, List.mem_of_getElem? (i := 1021) (by decide +kernel), List.mem_of_getElem? (i := 1146) (by decide +kernel), List.mem_of_getElem? (i := 1147) (by decide +kernel)⟩
theorem lw_p29 : lw_okq (⟨"BoreplanModel", "finish", "(I)I"⟩, 25) := ⟨⟨by decide +kernel, by decide +kernel⟩, List.mem_of_getElem? (i := 1021) (by decide +kernel), List.mem_of_getElem? (i := 1150) (by decide +kernel), List.mem_of_getElem? (i := 1151) (by decide +kernel)⟩
theorem lw_p30 : lw_okq (⟨"BoreplanModel", "setup", "(II)I"⟩, 25) := ⟨⟨by decide +kernel, by decide +kernel⟩, List.mem_of_getElem? (i := 1021) (by decide +kernel), List.mem_of_getElem? (i := 1154) (by decide +kernel), List.mem_of_getElem? (i := 1155) (by decide +kernel)⟩
theorem lw_p31 : lw_okq (⟨"BoreplanModel", "spanNow", "()I"⟩, 25) := ⟨⟨by decide +kernel, by decide +kernel⟩, List.mem_of_getElem? (i := 1021) (by decide +kernel), List.mem_of_getElem? (i := 1158) (by decide +kernel), List.mem_of_getElem? (i := 1159) (by decide +kernel)⟩
def lw_privs_2 : List (MethodName × Nat) := [(⟨"java/util/ArrayList", "fastRemove", "([Ljava/lang/Object;I)V"⟩, 3), (⟨"Boreplan", "placedJob", "(I)LBoreplan$Job;"⟩, 1), (⟨"Boreplan", "placedOperation", "(II)LBoreplan$Operation;"⟩, 1), (⟨"Boreplan$Shop", "putRowLater", "(LBoreplan$Machine;)Z"⟩, 6), (⟨"Boreplan$Shop", "readyInRounds", "(LBoreplan$Operation;)I"⟩, 6), (⟨"Boreplan$Shop", "latestFinish", "(LBoreplan$Operation;)I"⟩, 6), (⟨"Boreplan$Machine", "neededLast", "(II)I"⟩, 7), (⟨"BoreplanModel", "isMachine", "(I)Z"⟩, 25), (⟨"BoreplanModel", "spanOf", "()I"⟩, 25), (⟨"BoreplanModel", "works", "()Z"⟩, 25), (⟨"BoreplanModel", "lays", "()V"⟩, 25), (⟨"BoreplanModel", "waits", "(I)I"⟩, 25), (⟨"BoreplanModel", "beside", "(II)I"⟩, 25), (⟨"BoreplanModel", "finish", "(I)I"⟩, 25), (⟨"BoreplanModel", "setup", "(II)I"⟩, 25), (⟨"BoreplanModel", "spanNow", "()I"⟩, 25)]
theorem lw_r2 : ∀ q ∈ lw_privs_2, lw_okq q := List.forall_mem_cons.mpr ⟨lw_p16, List.forall_mem_cons.mpr ⟨lw_p17, List.forall_mem_cons.mpr ⟨lw_p18, List.forall_mem_cons.mpr ⟨lw_p19, List.forall_mem_cons.mpr ⟨lw_p20, List.forall_mem_cons.mpr ⟨lw_p21, List.forall_mem_cons.mpr ⟨lw_p22, List.forall_mem_cons.mpr ⟨lw_p23, List.forall_mem_cons.mpr ⟨lw_p24, List.forall_mem_cons.mpr ⟨lw_p25, List.forall_mem_cons.mpr ⟨lw_p26, List.forall_mem_cons.mpr ⟨lw_p27, List.forall_mem_cons.mpr ⟨lw_p28, List.forall_mem_cons.mpr ⟨lw_p29, List.forall_mem_cons.mpr ⟨lw_p30, List.forall_mem_cons.mpr ⟨lw_p31, fun _ h => absurd h List.not_mem_nil⟩⟩⟩⟩⟩⟩⟩⟩⟩⟩⟩⟩⟩⟩⟩⟩
theorem lw_p32 : lw_okq (⟨"BoreplanModel", "isJob", "(I)Z"⟩, 25) := ⟨⟨by decide +kernel, by decide +kernel⟩, List.mem_of_getElem? (i := 1021) (by decide +kernel), List.mem_of_getElem? (i := 1174) (by decide +kernel), List.mem_of_getElem? (i := 1175) (by decide +kernel)⟩
theorem lw_p33 : lw_okq (⟨"BoreplanModel", "bars", "(I)I"⟩, 25) := ⟨⟨by decide +kernel, by decide +kernel⟩, List.mem_of_getElem? (i := 1021) (by decide +kernel), List.mem_of_getElem? (i := 1189) (by decide +kernel), List.mem_of_getElem? (i := 1190) (by decide +kernel)⟩
theorem lw_p34 : lw_okq (⟨"BoreplanModel", "puts", "(II)V"⟩, 25) := ⟨⟨by decide +kernel, by decide +kernel⟩, List.mem_of_getElem? (i := 1021) (by decide +kernel), List.mem_of_getElem? (i := 1193) (by decide +kernel), List.mem_of_getElem? (i := 1194) (by decide +kernel)⟩
theorem lw_p35 : lw_okq (⟨"BoreplanModel", "rushes", "(I)V"⟩, 25) := ⟨⟨by decide +kernel, by decide +kernel⟩, List.mem_of_getElem? (i := 1021) (by decide +kernel), List.mem_of_getElem? (i := 1201) (by decide +kernel), List.mem_of_getElem? (i := 1202) (by decide +kernel)⟩
theorem lw_p36 : lw_okq (⟨"BoreplanModel", "takes", "(I)V"⟩, 25) := ⟨⟨by decide +kernel, by decide +kernel⟩, List.mem_of_getElem? (i := 1021) (by decide +kernel), List.mem_of_getElem? (i := 1205) (by decide +kernel), List.mem_of_getElem? (i := 1206) (by decide +kernel)⟩
theorem lw_p37 : lw_okq (⟨"BoreplanModel", "exchanges", "(II)V"⟩, 25) := ⟨⟨by decide +kernel, by decide +kernel⟩, List.mem_of_getElem? (i := 1021) (by decide +kernel), List.mem_of_getElem? (i := 1217) (by decide +kernel), List.mem_of_getElem? (i := 1218) (by decide +kernel)⟩
theorem lw_p38 : lw_okq (⟨"BoreplanModel", "fails", "(I)I"⟩, 25) := ⟨⟨by decide +kernel, by decide +kernel⟩, List.mem_of_getElem? (i := 1021) (by decide +kernel), List.mem_of_getElem? (i := 1221) (by decide +kernel), List.mem_of_getElem? (i := 1222) (by decide +kernel)⟩
theorem lw_p39 : lw_okq (⟨"BoreplanModel", "startNow", "(II)I"⟩, 25) := ⟨⟨by decide +kernel, by decide +kernel⟩, List.mem_of_getElem? (i := 1021) (by decide +kernel), List.mem_of_getElem? (i := 1240) (by decide +kernel), List.mem_of_getElem? (i := 1241) (by decide +kernel)⟩
theorem lw_p40 : lw_okq (⟨"BoreplanModel", "isAsked", "(II)Z"⟩, 25) := ⟨⟨by decide +kernel, by decide +kernel⟩, List.mem_of_getElem? (i := 1021) (by decide +kernel), List.mem_of_getElem? (i := 1244) (by decide +kernel), List.mem_of_getElem? (i := 1245) (by decide +kernel)⟩
theorem lw_p41 : lw_okq (⟨"BoreplanModel", "worksBack", "()V"⟩, 25) := ⟨⟨by decide +kernel, by decide +kernel⟩, List.mem_of_getElem? (i := 1021) (by decide +kernel), List.mem_of_getElem? (i := 1264) (by decide +kernel), List.mem_of_getElem? (i := 1265) (by decide +kernel)⟩
theorem lw_p42 : lw_okq (⟨"BoreplanModel", "lasts", "(II)I"⟩, 25) := ⟨⟨by decide +kernel, by decide +kernel⟩, List.mem_of_getElem? (i := 1021) (by decide +kernel), List.mem_of_getElem? (i := 1269) (by decide +kernel), List.mem_of_getElem? (i := 1270) (by decide +kernel)⟩
theorem lw_p43 : lw_okq (⟨"BoreplanModel", "walks", "()V"⟩, 25) := ⟨⟨by decide +kernel, by decide +kernel⟩, List.mem_of_getElem? (i := 1021) (by decide +kernel), List.mem_of_getElem? (i := 1277) (by decide +kernel), List.mem_of_getElem? (i := 1278) (by decide +kernel)⟩
theorem lw_p44 : lw_okq (⟨"BoreplanModel", "needs", "(II)V"⟩, 25) := ⟨⟨by decide +kernel, by decide +kernel⟩, List.mem_of_getElem? (i := 1021) (by decide +kernel), List.mem_of_getElem? (i := 1293) (by decide +kernel), List.mem_of_getElem? (i := 1294) (by decide +kernel)⟩
def lw_privs_3 : List (MethodName × Nat) := [(⟨"BoreplanModel", "isJob", "(I)Z"⟩, 25), (⟨"BoreplanModel", "bars", "(I)I"⟩, 25), (⟨"BoreplanModel", "puts", "(II)V"⟩, 25), (⟨"BoreplanModel", "rushes", "(I)V"⟩, 25), (⟨"BoreplanModel", "takes", "(I)V"⟩, 25), (⟨"BoreplanModel", "exchanges", "(II)V"⟩, 25), (⟨"BoreplanModel", "fails", "(I)I"⟩, 25), (⟨"BoreplanModel", "startNow", "(II)I"⟩, 25), (⟨"BoreplanModel", "isAsked", "(II)Z"⟩, 25), (⟨"BoreplanModel", "worksBack", "()V"⟩, 25), (⟨"BoreplanModel", "lasts", "(II)I"⟩, 25), (⟨"BoreplanModel", "walks", "()V"⟩, 25), (⟨"BoreplanModel", "needs", "(II)V"⟩, 25)]
theorem lw_r3 : ∀ q ∈ lw_privs_3, lw_okq q := List.forall_mem_cons.mpr ⟨lw_p32, List.forall_mem_cons.mpr ⟨lw_p33, List.forall_mem_cons.mpr ⟨lw_p34, List.forall_mem_cons.mpr ⟨lw_p35, List.forall_mem_cons.mpr ⟨lw_p36, List.forall_mem_cons.mpr ⟨lw_p37, List.forall_mem_cons.mpr ⟨lw_p38, List.forall_mem_cons.mpr ⟨lw_p39, List.forall_mem_cons.mpr ⟨lw_p40, List.forall_mem_cons.mpr ⟨lw_p41, List.forall_mem_cons.mpr ⟨lw_p42, List.forall_mem_cons.mpr ⟨lw_p43, List.forall_mem_cons.mpr ⟨lw_p44, fun _ h => absurd h List.not_mem_nil⟩⟩⟩⟩⟩⟩⟩⟩⟩⟩⟩⟩⟩
def lw_privs : List (MethodName × Nat) := lw_privs_1 ++ (lw_privs_2 ++ (lw_privs_3))
def lw_tbl : List Cond := k2_sels lw_privs ++ tables_1
theorem lw_privs_ok : ∀ q ∈ lw_privs, lw_okq q := by
  show ∀ q ∈ lw_privs_1 ++ (lw_privs_2 ++ (lw_privs_3)), lw_okq q
  exact List.forall_mem_append.mpr ⟨lw_r1, List.forall_mem_append.mpr ⟨lw_r2, lw_r3⟩⟩
/-! ===== BEGIN words of one list among another's, by their places ===== -/
theorem goodIn_r {big : List Cond} (ws : List Cond) (ps : List Nat) (hp : ws = ps.filterMap (fun i => big[i]?)) (h : ws.all goodWord = true) : GoodIn big ws := by
  intro w hw
  have h1 := List.all_eq_true.mp h w hw
  rw [hp] at hw
  obtain ⟨i, -, hi⟩ := List.mem_filterMap.mp hw
  have hm : w ∈ big := by first | exact List.mem_of_getElem? hi | exact List.getElem?_mem hi
  exact ⟨hm, good_of_word h1⟩
theorem goodIn_app {big a b : List Cond} (ha : GoodIn big a) (hb : GoodIn big b) : GoodIn big (a ++ b) := fun w h => (List.mem_append.mp h).elim (ha w) (hb w)
theorem goodIn_ca {big a b : List Cond} {c : Cond} (ha : GoodIn big (c :: a)) (hb : GoodIn big b) : GoodIn big (c :: (a ++ b)) := fun w h => (List.mem_cons.mp h).elim (fun e => ha w (List.mem_cons.mpr (Or.inl e))) (fun h => (List.mem_append.mp h).elim (fun h => ha w (List.mem_cons.mpr (Or.inr h))) (hb w))
theorem goodIn_sub {big ws : List Cond} (hm : ∀ w ∈ ws, w ∈ big) (h : ws.all goodWord = true) : GoodIn big ws := fun w hw => ⟨hm w hw, good_of_word (List.all_eq_true.mp h w hw)⟩
/-! ===== END ===== -/

/-! ===== BEGIN new T[n][m]: the outer array a place, the inner ones among the pooled ===== -/
/-- f, but v at every address of l -/
def vr_up {α : Type} (f : Nat → α) (l : List Nat) (v : α) : Nat → α := fun a => if a ∈ l then v else f a
theorem vr_up_in {α : Type} {f : Nat → α} {l : List Nat} {v : α} {a : Nat} (h : a ∈ l) : vr_up f l v a = v := if_pos h
theorem vr_up_ne {α : Type} {f : Nat → α} {l : List Nat} {v : α} {a : Nat} (h : a ∉ l) : vr_up f l v a = f a := if_neg h
theorem vr_rows {L l : List Nat} {f : Nat → va_E} {e : va_E} (h : ∀ a, a ∈ l → a ∉ L) : va_pl L f ++ l.map (fun a => (a, e)) = va_pl (L ++ l) (vr_up f l e) := by
  unfold va_pl
  rw [List.map_append]
  congr 1
  · apply List.map_congr_left
    intro a ha
    rw [vr_up_ne (fun q => h a q ha)]
  · apply List.map_congr_left
    intro a ha
    rw [vr_up_in ha]
theorem vr_lay {X rows : va_W} {x : Nat × va_E} {pl : va_W} {D : va_G} {cl : List vw_C} {H : Heap} (hP : va_P D cl (((X ++ pl) ++ [x]) ++ rows) H) : va_P D cl ((X ++ [x]) ++ (pl ++ rows)) H := by
  rw [List.append_assoc (X ++ pl)] at hP
  have h := va_P.swap hP
  rw [← List.append_assoc X] at h
  have h2 := va_P.swap h
  rw [List.append_assoc (X ++ [x])] at h2
  exact h2
theorem vr_layD {X rows : va_W} {x : Nat × va_E} {pl : va_W} {A : Nat → Prop} (hD : va_D A (((X ++ pl) ++ [x]) ++ rows)) : va_D A ((X ++ [x]) ++ (pl ++ rows)) := by
  rw [List.append_assoc (X ++ pl)] at hD
  have h := va_D.swap hD
  rw [← List.append_assoc X] at h
  have h2 := va_D.swap h
  rw [List.append_assoc (X ++ [x])] at h2
  exact h2
theorem vr_outer (c : ClassId) (N h0 : Nat) : ∀ i : Nat, Jvm.Free.Multi.outerC c N h0 i = arrV c N (fun j => va_rf (if j < i then some (h0 + 1 + j) else none))
  | 0 => by
    show ({ cls := c, slots := Array.replicate N .null, vm := .none } : Cell) = _
    rw [arrV_new]
    refine congrArg (arrV c N) (funext fun j => ?_)
    simp [va_rf]
  | i + 1 => by
    show (Jvm.Free.Multi.outerC c N h0 i).setSlot i (.ref (h0 + 1 + i)) = _
    rw [vr_outer c N h0 i, arrV_store]
    refine congrArg (arrV c N) (funext fun j => ?_)
    by_cases e : j = i
    · subst e
      simp [updV, va_rf]
    · by_cases h : j < i
      · simp [updV, e, h, Nat.lt_succ_of_lt h]
      · simp [updV, e, h, show ¬ j < i + 1 by omega]
section VGM
variable {p : Program} {l : Launch} {e : Env} {R : Room} {s : State} {m : MethodId} {args : Array Value} {below : List Frame} {meth : Method} {c : Code} {H : Heap} {locs : List Loc} {cells slots : Nat} {Q : State → Prop}
variable {cc : ByteArray} {pc : Nat} {ls : Array Slot} {rest : List Value} {D : va_G} {cl : List vw_C} {A : Nat → Prop} {a : Nat} {tys : List (ClassId × FieldType)} {ws : va_W} {H0 : Heap}
theorem va_mna {X : va_W} {L : List Nat} {f : Nat → va_E} {cc : ByteArray} (hexec : p.tables.exec = Jvm.exec) (hb : c.code = cc) {own : String} {index : Nat} {ty : FieldType} {cy : ClassId} (hown : s.vm.findClass own = some m.cls) (hclink : (Cond.classLink own index ("[" ++ (FieldType.array ty).toString)).before args s = true) (hover : va_AOA ty s) (harr : (Cond.arrayClass ty).before args s = true) (hcy : s.vm.findClass (FieldType.array ty).toString = some cy)
    (hK : va_K D cl tys s) (hP : va_P D cl (X ++ va_pl L f) H) (hD : va_D A (X ++ va_pl L f)) (hS : va_S A H0 H locs) (hA : ∀ q, H0.size ≤ q → A q) {n k : Int32} {N' K' : Nat} {z : vp_A} (hn : ¬ n < 0) (hk : ¬ k < 0) (hN : n.toNatClampNeg = N') (hM : k.toNatClampNeg = K')
    (hb1 : N' * 4 ≤ 536870912) (hb2 : K' * componentBytes ty ≤ 536870912) (hb3 : K' ≤ 536870912) (hdf : fits ty (defaultValue ty) = true) (hdd : (defaultValue ty).isDefault = true) (hcells : cells + (1 + N') ≤ R.cells) (hslots : slots + (N' + N' * K') ≤ R.slots) (hz : ∀ c : ClassId, Jvm.Free.Multi.innerC c K' (defaultValue ty) = vp_cell c z) (hdg : decode cc pc = .ok (.multianewarray index 2, 4))
    (kk : ∀ (q : Nat) (r : Nat → Nat) (cA : ClassId) (H1 : Heap), (∀ i j : Nat, i < N' → j < N' → r i = r j → i = j) → (∀ i : Nat, i < N' → r i ∉ L) → va_K D cl (tys ++ [(cA, .array ty)]) s →
      va_P D cl ((X ++ [(q, .inl (cA, N', .inr (.inr (.inr (.inr (fun i => if i < N' then some (r i) else none))))))]) ++ va_pl (L ++ (List.range N').map r) (vr_up f ((List.range N').map r) (.inl (cy, z)))) H1 → va_D A ((X ++ [(q, .inl (cA, N', .inr (.inr (.inr (.inr (fun i => if i < N' then some (r i) else none))))))]) ++ va_pl (L ++ (List.range N').map r) (vr_up f ((List.range N').map r) (.inl (cy, z)))) → va_S A H0 H1 locs →
      W p l e R s m args below meth c H1 locs (cells + 1 + N') (slots + N' + N' * K') Q (F0 m (pc + 4) ls (.ref q :: rest))) : W p l e R s m args below meth c H locs cells slots Q (F0 m pc ls (.int k :: .int n :: rest)) := by
  subst hN
  subst hM
  intro T hT Xs
  obtain ⟨vm₁, cA, comp, -, fA, fC, hO, -, X', step⟩ := Xs.multianewarray2F hexec hown hclink (va_AOA.use hover) harr (g := F0 m pc ls (.int k :: .int n :: rest)) rfl (by rw [hb]; exact hdg) rfl hn hk hb1 hb2 hb3 hdf hdd hcells hslots
  have ec : some cy = some comp := hcy.symm.trans fC
  cases ec
  generalize hF : Jvm.Free.Multi.fill (T.setVm vm₁) cA cy n.toNatClampNeg k.toNatClampNeg (defaultValue ty) n.toNatClampNeg = F at X' step
  have hTh : (T.setVm vm₁).heap = H := hT
  obtain ⟨f1, f2, -, -⟩ := Jvm.Free.Multi.fill_facts (T.setVm vm₁) cA cy n.toNatClampNeg k.toNatClampNeg (defaultValue ty) n.toNatClampNeg
  rw [hF, hTh] at f1 f2
  have hold : ∀ x : Nat, x < H.size → F.heap[x]? = H[x]? := fun x hx => by
    have := Jvm.Free.Multi.fill_old (T.setVm vm₁) cA cy n.toNatClampNeg k.toNatClampNeg (defaultValue ty) (a := x) (by rw [hTh]; exact hx) n.toNatClampNeg
    rw [hF, hTh] at this
    exact this
  have hrow : ∀ j : Nat, j < n.toNatClampNeg → F.heap[H.size + 1 + j]? = some (vp_cell cy z) := fun j hj => by
    have := Jvm.Free.Multi.fill_inner (T.setVm vm₁) cA cy n.toNatClampNeg k.toNatClampNeg (defaultValue ty) n.toNatClampNeg j hj
    rw [hF, hTh, hz] at this
    exact this
  have hout : Jvm.Free.Multi.outerC cA n.toNatClampNeg H.size n.toNatClampNeg = vp_cell cA (n.toNatClampNeg, .inr (.inr (.inr (.inr (fun i => if i < n.toNatClampNeg then some (H.size + 1 + i) else none))))) := by
    rw [vp_cell_q]
    exact vr_outer cA n.toNatClampNeg H.size n.toNatClampNeg
  rw [hout] at f2
  have hlt : ∀ a, a ∈ L → a < H.size := fun a ha => by
    obtain ⟨k9, hk9⟩ := va_pl_get (X := X) (f := f) ha
    exact (hP k9 _ hk9).lt
  have hnl : ∀ i : Nat, i < n.toNatClampNeg → H.size + 1 + i ∉ L := fun i _ h => by
    have := hlt _ h
    omega
  have hnm : ∀ a, a ∈ (List.range n.toNatClampNeg).map (fun i => H.size + 1 + i) → a ∉ L := fun a ha h => by
    obtain ⟨i, -, rfl⟩ := List.mem_map.mp ha
    have := hlt _ h
    omega
  have hP0 : va_P D cl (X ++ va_pl L f) F.heap := hP.kept (fun k9 x hx => hold x.1 ((hP k9 x hx).lt))
  have hP1 : va_P D cl ((X ++ va_pl L f) ++ [(H.size, .inl (cA, n.toNatClampNeg, .inr (.inr (.inr (.inr (fun i => if i < n.toNatClampNeg then some (H.size + 1 + i) else none))))))]) F.heap := hP0.app (fun k9 x hx => by
    have h0 : k9 < 1 := (List.getElem?_eq_some_iff.mp hx).1
    rw [show k9 = 0 by omega] at hx
    cases hx
    exact f2)
  have hP2 : va_P D cl (((X ++ va_pl L f) ++ [(H.size, .inl (cA, n.toNatClampNeg, .inr (.inr (.inr (.inr (fun i => if i < n.toNatClampNeg then some (H.size + 1 + i) else none))))))]) ++ ((List.range n.toNatClampNeg).map (fun i => H.size + 1 + i)).map (fun a => (a, .inl (cy, z)))) F.heap := hP1.app (fun k9 x hx => by
    obtain ⟨a, ha, rfl⟩ := List.mem_map.mp (List.mem_of_getElem? hx)
    obtain ⟨i, hi, rfl⟩ := List.mem_map.mp ha
    exact hrow i (List.mem_range.mp hi))
  have hD2 : va_D A (((X ++ va_pl L f) ++ [(H.size, .inl (cA, n.toNatClampNeg, .inr (.inr (.inr (.inr (fun i => if i < n.toNatClampNeg then some (H.size + 1 + i) else none))))))]) ++ ((List.range n.toNatClampNeg).map (fun i => H.size + 1 + i)).map (fun a => (a, .inl (cy, z)))) := by
    have hD1 := hD.push (e := .inl (cA, n.toNatClampNeg, .inr (.inr (.inr (.inr (fun i => if i < n.toNatClampNeg then some (H.size + 1 + i) else none)))))) hP rfl (hA _ hS.1)
    generalize hW1 : (X ++ va_pl L f) ++ [(H.size, .inl (cA, n.toNatClampNeg, .inr (.inr (.inr (.inr (fun i => if i < n.toNatClampNeg then some (H.size + 1 + i) else none))))))] = W1 at hD1 hP1 ⊢
    have hle : ∀ (k9 : Nat) (x : Nat × va_E), W1[k9]? = some x → x.1 ≤ H.size := fun k9 x hx => by
      rw [← hW1] at hx
      by_cases hl : k9 < (X ++ va_pl L f).length
      · rw [List.getElem?_append_left hl] at hx
        exact Nat.le_of_lt ((hP k9 x hx).lt)
      · rw [List.getElem?_append_right (by omega)] at hx
        have h0 : k9 - (X ++ va_pl L f).length < 1 := (List.getElem?_eq_some_iff.mp hx).1
        rw [show k9 - (X ++ va_pl L f).length = 0 by omega] at hx
        cases hx
        exact Nat.le_refl _
    have hr : ∀ (k9 : Nat) (x : Nat × va_E), (((List.range n.toNatClampNeg).map (fun i => H.size + 1 + i)).map (fun a => ((a, .inl (cy, z)) : Nat × va_E)))[k9]? = some x → x.1 = H.size + 1 + k9 := fun k9 x hx => by
      rw [List.getElem?_map, List.getElem?_map] at hx
      by_cases h9 : k9 < n.toNatClampNeg
      · rw [List.getElem?_range h9] at hx
        cases hx
        rfl
      · have hn0 : (List.range n.toNatClampNeg)[k9]? = none := List.getElem?_eq_none (by rw [List.length_range]; omega)
        rw [hn0] at hx
        cases hx
    refine ⟨fun i j x y hi hj hxy => ?_, fun k9 x hx => ?_⟩
    · by_cases h1 : i < W1.length <;> by_cases h2 : j < W1.length
      · rw [List.getElem?_append_left h1] at hi
        rw [List.getElem?_append_left h2] at hj
        exact hD1.1 i j x y hi hj hxy
      · rw [List.getElem?_append_left h1] at hi
        rw [List.getElem?_append_right (by omega)] at hj
        have := hle _ _ hi
        have := hr _ _ hj
        omega
      · rw [List.getElem?_append_right (by omega)] at hi
        rw [List.getElem?_append_left h2] at hj
        have := hle _ _ hj
        have := hr _ _ hi
        omega
      · rw [List.getElem?_append_right (by omega)] at hi hj
        have := hr _ _ hi
        have := hr _ _ hj
        omega
    · by_cases h1 : k9 < W1.length
      · rw [List.getElem?_append_left h1] at hx
        exact hD1.2 k9 x hx
      · rw [List.getElem?_append_right (by omega)] at hx
        have := hr _ _ hx
        exact hA _ (by have := hS.1; omega)
  have hAr : ArrOfT s cA (.array ty) := fun N9 z9 => by
    obtain ⟨-, k9, hk9, cm9, hkk9⟩ := (hO 0 0 0).1
    exact ⟨(fun q hq => by cases hq), k9, hk9, cm9, hkk9⟩
  have hK2 : va_K D cl (tys ++ [(cA, .array ty)]) s := ⟨hK.1, fun k9 x hx => by
    by_cases hl : k9 < tys.length
    · rw [List.getElem?_append_left hl] at hx
      exact hK.2 k9 x hx
    · rw [List.getElem?_append_right (by omega)] at hx
      have h0 : k9 - tys.length < 1 := (List.getElem?_eq_some_iff.mp hx).1
      rw [show k9 - tys.length = 0 by omega] at hx
      cases hx
      exact ⟨hAr, fA⟩⟩
  obtain ⟨t, a1, b1⟩ := kk H.size (fun i => H.size + 1 + i) cA F.heap (fun i j _ _ h => by have h9 : H.size + 1 + i = H.size + 1 + j := h; omega) hnl hK2 (by rw [← vr_rows hnm]; exact vr_lay hP2) (by rw [← vr_rows hnm]; exact vr_layD hD2) ⟨by rw [f1]; have := hS.1; omega, fun x h1 h2 => (hold x (Nat.lt_of_lt_of_le h1 hS.1)).trans (hS.2.1 x h1 h2), hS.2.2⟩ F rfl X'
  refine ⟨t, step t ?_, b1⟩
  have e : T.heap.size = H.size := by rw [hT]
  rw [e]
  exact a1
end VGM
/-! ===== END ===== -/

/-! ===== BEGIN exceptions that leave a method, and their catching by the caller (launches without stack traces) ===== -/
section VXA
/-! The laws vx_back, vx_callV, vx_callS, vx_callSW, vx_throw0, vx_throwS follow proofs of the library, with one case more: JvmDerived/Free/Laws.lean (Back.of_free), Shelf42/LK1.lean (callV, callS), Shelf/KitTraced.lean (throwNew0V, throwNewS). -/
/-- where a method has thrown q: the class by its name, the cell, what was written, the world -/
def vx_T (XC : String → State → State → Prop) (st : State) (q : Addr) (t : State) (mc ms : Nat) (free : Addr → Prop) : Prop :=
  ∃ (E : String) (ce : Cell) (L : List Loc), XC E st t ∧ t.heap[q]? = some ce ∧ ce.vm = .none ∧ st.vm.findClass E = some ce.cls ∧ st.WarmedH t.vm ∧ st.sameButNew ({ t with vm := st.vm } : State) L mc ms ∧ ∀ z ∈ L, free z.base
def vx_Q (Qc : Array Value → State → Outcome → State → Prop) (XC : String → State → State → Prop) (mc ms : Nat) (free : Addr → Prop) : Array Value → State → Outcome → State → Prop := fun a st o t =>
  (Qc a st o t ∧ ∃ L, FrameEnd st o t L mc ms ∧ ∀ q ∈ L, free q.base) ∨ ∃ q, o = .threw q ∧ vx_T XC st q t mc ms free
/-- a callee that returns or throws -/
def vx_Met (l : Launch) (y : MethodName) (ws : List Cond) (rm : Room) (Pc : Array Value → State → Prop) (Qc : Array Value → State → Outcome → State → Prop) (XC : String → State → State → Prop) (mc ms : Nat) (free : Addr → Prop) : Prop :=
  MetFree l y (headSpec ws rm) Pc (fun _ _ _ _ _ => True) (vx_Q Qc XC mc ms free)
def vx_Post (XC : String → State → State → Prop) (mc ms : Nat) (free : Addr → Prop) : Pt → Array Value → Addr → Pt → Prop := fun A a q B =>
  ∃ (g : JFrame) (mk : MethodId) (t : State) (L : List Loc) (E : String) (ce : Cell), B.U.heap = t.heap ∧ B.U.vm = t.vm ∧ XC E (A.U.calling g mk a) t ∧ t.heap[q]? = some ce ∧ ce.vm = .none ∧ A.U.vm.findClass E = some ce.cls ∧ B.locs = A.locs ++ L ∧ (∀ z ∈ L, free z.base) ∧ B.cells = A.cells + mc ∧ B.slots = A.slots + ms
def vx_Back (l : Launch) (R : Room) (p : Program) (e : Env) (below : List Frame) (s : State) (sargs : Array Value) (y : MethodName) (len W9 : Nat)
    (Pre : Pt → Array Value → Prop) (Post : Pt → Array Value → Option Value → Pt → Prop) (PostX : Pt → Array Value → Addr → Pt → Prop) : Prop :=
  ∀ (m : MethodId) (meth : Method) (c : Code) (A : Pt) (g : JFrame) (ig : Instr) (mk : MethodId) (a : Array Value),
    Stand p l e R s m sargs below meth c A.U A.locs A.cells A.slots → g.method = m → g.locals.size = c.maxLocals → decode c.code g.pc = .ok (ig, len) →
    2 * g.monitorRoom + (g.stack.map fun v => v.category).sum ≤ W9 → A.U.methodNamed? y = some mk → Pre A a →
    (∃ (v : Option Value) (B : Pt), Stand p l e R s m sargs below meth c B.U B.locs B.cells B.slots ∧ Post A a v B ∧
      Steps p.tables e below (doInvoke e (A.U.setTop g) [] mk a).1 (B.U.setTop { g with pc := g.pc + len, stack := v.toList ++ g.stack })) ∨
    (∃ (q : Addr) (B : Pt), Stand p l e R s m sargs below meth c B.U B.locs B.cells B.slots ∧ PostX A a q B ∧
      Steps p.tables e below (doInvoke e (A.U.setTop g) [] mk a).1 ((B.U.setTop g).pushFrame (.throwing q)))
section Payer
variable {l : Launch} {R : Room} {p : Program} {e : Env} {below : List Frame} {s : State} {sargs : Array Value} {y : MethodName} {len W9 : Nat}
theorem vx_back {ws : List Cond} {rm : Room} {Pc : Array Value → State → Prop} {Qc : Array Value → State → Outcome → State → Prop} {XC : String → State → State → Prop} {mc ms : Nat} {free : Addr → Prop} {bytes : ByteArray} {maxL : Nat} {ret : Option FieldType}
    (hM : vx_Met l y ws rm Pc Qc XC mc ms free) (hblind : FrameBlind Pc) (hrc : rm.cells = mc) (hrs : rm.slots = ms)
    (hframes : rm.frames + 1 ≤ R.frames) (hlocals : W9 + (maxL + 11) + rm.locals ≤ R.locals)
    (hws : ∀ w ∈ ws, ∀ a' U, s.WarmedH U.vm → w.before a' U = true) (hcode : Cond.code y bytes maxL ret ∈ ws) (hinit : ∀ a' U, s.WarmedH U.vm → (Cond.initialized y.cls).before a' U = true) :
    vx_Back l R p e below s sargs y len W9 (PreOf R mc ms Pc) (PostOf Qc mc ms free) (vx_Post XC mc ms free) := by
  intro m meth c A g ig mk a X hg hsize hdg hW hn hp
  have h1 : (headSpec ws rm).pre.before a A.U = true := atoms_intro fun w hw => hws w hw _ _ X.warmed
  have h2 : (Cond.code y bytes maxL ret).before a A.U = true := hws _ hcode _ _ X.warmed
  have h3 : (Cond.initialized y.cls).before a A.U = true := hinit _ _ X.warmed
  have h4 : A.cells + (headSpec ws rm).room.cells ≤ R.cells := by rw [show (headSpec ws rm).room.cells = mc from hrc]; exact hp.1
  have h5 : A.slots + (headSpec ws rm).room.slots ≤ R.slots := by rw [show (headSpec ws rm).room.slots = ms from hrs]; exact hp.2.1
  have hPc : Pc a (A.U.calling g mk a) := hblind _ _ _ _ hp.2.2
  obtain ⟨U, Ls, c0, s0⟩ := A
  dsimp only [Pt.U, Pt.locs, Pt.cells, Pt.slots] at h1 h2 h3 h4 h5 X hn hPc ⊢
  obtain ⟨methY, cY, hmY, hcY, -, hlY, -, -, -, -⟩ := Cond.code_spec hn h2
  obtain ⟨kY, hkY, -⟩ := className_of_methodNamed hn
  have hinitY : kY.init = .initialized := Cond.initialized_spec (findClass_of_methodNamed hn) hkY h3
  have h : At U g.method c below := by rw [hg]; exact X.here
  have hlocals9 : W9 + (maxL + 11) + (headSpec ws rm).room.locals ≤ R.locals := hlocals
  have happ : (headSpec ws rm).appliesLoose y e.platform (U.calling g mk a) = true :=
    Spec.appliesLoose_calling (g := g) h hdg hn hkY hinitY
      (X.room_calling (g := g) (R' := (headSpec ws rm).room) hsize hmY hcY hframes (by rw [hlY]; omega) h4 h5) h1
  obtain ⟨mid, hmid⟩ := h.above
  have hfr : (U.setTop g).frames = (.java g :: mid) ++ below := by rw [State.frames_setTop' g h.top, hmid]; rfl
  obtain ⟨o, s₂, hsteps, -, hend, hq⟩ := Steps.callFree hM p X.admits X.cas X.clock (acts := []) hfr happ hPc trivial
  have hq' : vx_Q Qc XC mc ms free a (U.calling g mk a) o s₂ := hq
  rw [State.frames_setTop' g h.top] at hend
  obtain ⟨g₀, hg0⟩ := Option.isSome_iff_exists.mp h.top
  obtain ⟨r, hr⟩ := State.topJava?_eq_some.mp hg0
  have hr' : (({ U with heap := s₂.heap, slotsUsed := s₂.slotsUsed } : State).setVm s₂.vm).frames = .java g₀ :: r := hr
  rcases hq' with ⟨hqc, L, hfe, hL⟩ | ⟨q, rfl, E, ce, L, hx, hce, hcv, hcl, hW₂, hsm, hL⟩
  · obtain ⟨⟨v, rfl⟩, hW₂, e2, q2, q3, q4, q5, q6⟩ := id hfe
    have e3 : s₂ = ({ (U.calling g mk a).setFrames s₂.frames with heap := s₂.heap, slotsUsed := s₂.slotsUsed } : State).setVm s₂.vm := by
      have : s₂ = ({ s₂ with vm := (U.calling g mk a).vm } : State).setVm s₂.vm := rfl
      rw [e2] at this
      exact this
    obtain ⟨c₂, i₂, len₂, hc₂, hd₂, hf₂⟩ := hend
    have hW' : U.WarmedH s₂.vm := hW₂
    have hcc : c₂ = c := by
      have h1 : s₂.code? g.method = U.code? g.method := by
        rw [State.code?_eq, State.code?_eq, hW'.alike.method?]
      exact Option.some.inj (hc₂.symm.trans (h1.trans h.code))
    subst hcc
    have hlen : len₂ = len := by rw [hdg] at hd₂; cases hd₂; rfl
    subst hlen
    have hs₂ : s₂ = (({ U with heap := s₂.heap, slotsUsed := s₂.slotsUsed } : State).setVm s₂.vm).setTop { g with pc := g.pc + len₂, stack := v.toList ++ g.stack } := by
      refine e3.trans ?_
      rw [hf₂, State.calling_eq h.top, State.setFrames_setFrames, State.setTop_of_frames _ hr', hr]
      rfl
    have hsame : U.sameButNew ({ U with heap := s₂.heap, slotsUsed := s₂.slotsUsed } : State) L mc ms := by
      refine ⟨?_, q2, q3, q4, q5, q6⟩
      obtain ⟨t, ht, -⟩ := State.frames_cons hr
      show ({ U with heap := s₂.heap, slotsUsed := s₂.slotsUsed } : State) = { U.setFrames U.frames with heap := s₂.heap, slotsUsed := s₂.slotsUsed }
      rw [State.setFrames_self ht]
    subst hg
    refine Or.inl ⟨v, ⟨(({ U with heap := s₂.heap, slotsUsed := s₂.slotsUsed } : State).setVm s₂.vm), Ls ++ L, c0 + mc, s0 + ms⟩,
      ⟨X.admits, X.cas, X.clock, X.frames, X.room, X.hears, X.method, X.code, (X.here.setHeapUsed s₂.heap s₂.slotsUsed).setVm hW'.alike, X.tail, State.WarmedH.trans X.warmed hW', X.limits, X.bytes, X.same.trans (hsame.setVm s.vm)⟩,
      ⟨g, mk, s₂, L, rfl, rfl, hqc, rfl, hL, rfl, rfl⟩, ?_⟩
    show Steps p.tables e below _ ((({ U with heap := s₂.heap, slotsUsed := s₂.slotsUsed } : State).setVm s₂.vm).setTop { g with pc := g.pc + len₂, stack := v.toList ++ g.stack })
    rw [← hs₂]
    exact hsteps
  · obtain ⟨e2, q2, q3, q4, q5, q6⟩ := id hsm
    have e3 : s₂ = ({ (U.calling g mk a).setFrames s₂.frames with heap := s₂.heap, slotsUsed := s₂.slotsUsed } : State).setVm s₂.vm := by
      have : s₂ = ({ s₂ with vm := (U.calling g mk a).vm } : State).setVm s₂.vm := rfl
      rw [e2] at this
      exact this
    have hf₂ : s₂.frames = .throwing q :: .java g :: U.frames.tail := hend
    have hW' : U.WarmedH s₂.vm := hW₂
    have hs₂ : s₂ = ((({ U with heap := s₂.heap, slotsUsed := s₂.slotsUsed } : State).setVm s₂.vm).setTop g).pushFrame (.throwing q) := by
      refine e3.trans ?_
      rw [hf₂, State.calling_eq h.top, State.setFrames_setFrames, State.pushFrame, State.frames_setTop _ hr', State.setTop_of_frames _ hr', State.setFrames_setFrames, hr]
      rfl
    have hsame : U.sameButNew ({ U with heap := s₂.heap, slotsUsed := s₂.slotsUsed } : State) L mc ms := by
      refine ⟨?_, q2, q3, q4, q5, q6⟩
      obtain ⟨t, ht, -⟩ := State.frames_cons hr
      show ({ U with heap := s₂.heap, slotsUsed := s₂.slotsUsed } : State) = { U.setFrames U.frames with heap := s₂.heap, slotsUsed := s₂.slotsUsed }
      rw [State.setFrames_self ht]
    subst hg
    refine Or.inr ⟨q, ⟨(({ U with heap := s₂.heap, slotsUsed := s₂.slotsUsed } : State).setVm s₂.vm), Ls ++ L, c0 + mc, s0 + ms⟩,
      ⟨X.admits, X.cas, X.clock, X.frames, X.room, X.hears, X.method, X.code, (X.here.setHeapUsed s₂.heap s₂.slotsUsed).setVm hW'.alike, X.tail, State.WarmedH.trans X.warmed hW', X.limits, X.bytes, X.same.trans (hsame.setVm s.vm)⟩,
      ⟨g, mk, s₂, L, E, ce, rfl, rfl, hx, hce, hcv, hcl, rfl, hL, rfl, rfl⟩, ?_⟩
    show Steps p.tables e below _ (((({ U with heap := s₂.heap, slotsUsed := s₂.slotsUsed } : State).setVm s₂.vm).setTop g).pushFrame (.throwing q))
    rw [← hs₂]
    exact hsteps
end Payer
section Calls
variable {p : Program} {l : Launch} {e : Env} {R : Room} {s : State} {m : MethodId} {args : Array Value} {below : List Frame} {meth : Method} {c : Code} {T : State} {locs : List Loc} {cells slots : Nat}
theorem vx_callV (X : Stand p l e R s m args below meth c T locs cells slots) (hexec : p.tables.exec = Jvm.exec) {own C : String} {index : Nat} {y : MethodName} {bytes : ByteArray} {maxL : Nat} {ret : Option FieldType}
    (hown : s.vm.findClass own = some m.cls) (hlink : (Cond.methodLink own index y).before args s = true) (hinst : (Cond.instanceMethod y).before args s = true) (hsel : (Cond.selects C y y).before args s = true)
    (hcode : (Cond.code y bytes maxL ret).before args s = true) (hy : y.cls ≠ "java/lang/invoke/MethodHandle" ∧ y.cls ≠ "java/lang/invoke/VarHandle")
    {W9 : Nat} {Pre : Pt → Array Value → Prop} {Post : Pt → Array Value → Option Value → Pt → Prop} {PostX : Pt → Array Value → Addr → Pt → Prop} (hK : vx_Back l R p e below s args y 3 W9 Pre Post PostX)
    {b : Addr} {cellB : Cell} (hcell : T.heap[b]? = some cellB) (hobj : cellB.vm.isStatics = false) (hcls : s.vm.findClass C = some cellB.cls)
    {g : JFrame} (hg : g.method = m) (hsize : g.locals.size = c.maxLocals) {argsL rest : List Value} (hlen : ∀ sig, parseMethodDescriptor y.desc = some sig → argsL.length = sig.parameters.length)
    (hstack : g.stack = argsL.reverse ++ .ref b :: rest) (hW : 2 * g.monitorRoom + (rest.map fun v => v.category).sum ≤ W9) (hdg : decode c.code g.pc = .ok (.invokevirtual index, 3))
    (hpre : ∀ vm₁, s.WarmedH vm₁ → Pre ⟨T.setVm vm₁, locs, cells, slots⟩ (Value.ref b :: argsL).toArray) :
    (∃ (v : Option Value) (vm₁ : Vm) (B : Pt), s.WarmedH vm₁ ∧ Stand p l e R s m args below meth c B.U B.locs B.cells B.slots ∧ Post ⟨T.setVm vm₁, locs, cells, slots⟩ (Value.ref b :: argsL).toArray v B ∧
      ∀ target, Steps p.tables e below (B.U.setTop { g with pc := g.pc + 3, stack := v.toList ++ rest }) target → Steps p.tables e below (T.setTop g) target) ∨
    (∃ (q : Addr) (vm₁ : Vm) (B : Pt), s.WarmedH vm₁ ∧ Stand p l e R s m args below meth c B.U B.locs B.cells B.slots ∧ PostX ⟨T.setVm vm₁, locs, cells, slots⟩ (Value.ref b :: argsL).toArray q B ∧
      Steps p.tables e below (T.setTop g) ((B.U.setTop { g with stack := rest }).pushFrame (.throwing q))) := by
  obtain ⟨mk, methM, hnamed, hmethM, hstM, habM⟩ := Cond.instanceMethod_spec hinst
  obtain ⟨methM', cM, hmethM', -, -, -, -, -, -, hsigM⟩ := Cond.code_spec hnamed hcode
  cases hmethM.symm.trans hmethM'
  obtain ⟨c2, r2, m2, q1, q2, q3, q4, kP, hkP, hkPi⟩ := Cond.selects_spec hsel
  cases hcls.symm.trans q1
  cases (State.methodFound?_of_named hnamed hy).symm.trans q2
  cases hnamed.symm.trans q3
  have hselP : selectMethod e.platform s.vm cellB.cls mk = .method mk := by rw [Launch.admits_selectMethod X.admits]; exact q4
  obtain ⟨vm₁, X₁, hstep₁⟩ := X.invokevirtual hexec hown hlink hnamed hmethM hstM hkP hkPi hy (a := b) (cell := cellB) hcell
    (fun z h => by rw [h] at hobj; cases hobj) hselP hmethM habM hkP hkPi (g := g) hg (argsL := argsL) (rest := rest) (hlen _ hsigM) hstack hdg
  rcases hK m meth c ⟨T.setVm vm₁, locs, cells, slots⟩ { g with stack := rest } (.invokevirtual index) mk (Value.ref b :: argsL).toArray X₁ hg hsize hdg hW (X₁.named hnamed) (hpre vm₁ X₁.warmed) with ⟨v, B, X', hpost, hsteps⟩ | ⟨q, B, X', hpost, hsteps⟩
  · exact Or.inl ⟨v, vm₁, B, X₁.warmed, X', hpost, fun target h => hstep₁ _ fun acts => by rw [doInvoke_state]; exact hsteps.trans h⟩
  · exact Or.inr ⟨q, vm₁, B, X₁.warmed, X', hpost, hstep₁ _ fun acts => by rw [doInvoke_state]; exact hsteps⟩
theorem vx_callS (X : Stand p l e R s m args below meth c T locs cells slots) (hexec : p.tables.exec = Jvm.exec) {own : String} {index : Nat} {y : MethodName} {bytes : ByteArray} {maxL : Nat} {ret : Option FieldType}
    (hown : s.vm.findClass own = some m.cls) (hlink : (Cond.methodLink own index y).before args s = true) (hstat : (Cond.static y).before args s = true) (hinit : (Cond.initialized y.cls).before args s = true)
    (hcode : (Cond.code y bytes maxL ret).before args s = true) (hy : y.cls ≠ "java/lang/invoke/MethodHandle" ∧ y.cls ≠ "java/lang/invoke/VarHandle")
    {W9 : Nat} {Pre : Pt → Array Value → Prop} {Post : Pt → Array Value → Option Value → Pt → Prop} {PostX : Pt → Array Value → Addr → Pt → Prop} (hK : vx_Back l R p e below s args y 3 W9 Pre Post PostX)
    {g : JFrame} (hg : g.method = m) (hsize : g.locals.size = c.maxLocals) {argsL rest : List Value} (hlen : ∀ sig, parseMethodDescriptor y.desc = some sig → argsL.length = sig.parameters.length)
    (hstack : g.stack = argsL.reverse ++ rest) (hW : 2 * g.monitorRoom + (rest.map fun v => v.category).sum ≤ W9) (hdg : decode c.code g.pc = .ok (.invokestatic index, 3))
    (hpre : ∀ vm₁, s.WarmedH vm₁ → Pre ⟨T.setVm vm₁, locs, cells, slots⟩ argsL.toArray) :
    (∃ (v : Option Value) (vm₁ : Vm) (B : Pt), s.WarmedH vm₁ ∧ Stand p l e R s m args below meth c B.U B.locs B.cells B.slots ∧ Post ⟨T.setVm vm₁, locs, cells, slots⟩ argsL.toArray v B ∧
      ∀ target, Steps p.tables e below (B.U.setTop { g with pc := g.pc + 3, stack := v.toList ++ rest }) target → Steps p.tables e below (T.setTop g) target) ∨
    (∃ (q : Addr) (vm₁ : Vm) (B : Pt), s.WarmedH vm₁ ∧ Stand p l e R s m args below meth c B.U B.locs B.cells B.slots ∧ PostX ⟨T.setVm vm₁, locs, cells, slots⟩ argsL.toArray q B ∧
      Steps p.tables e below (T.setTop g) ((B.U.setTop { g with stack := rest }).pushFrame (.throwing q))) := by
  obtain ⟨mk, hnamed⟩ := Cond.code_named hcode
  obtain ⟨methM, cM, hmethM, -, -, -, -, -, -, hsigM⟩ := Cond.code_spec hnamed hcode
  have hstatic : methM.isStatic = true := Cond.static_spec hnamed hmethM hstat
  obtain ⟨kP, hkP, -⟩ := className_of_methodNamed hnamed
  have hinitP : kP.init = .initialized := Cond.initialized_spec (findClass_of_methodNamed hnamed) hkP hinit
  obtain ⟨vm₁, X₁, hstep₁⟩ := X.invokestatic hexec hown hlink hnamed hmethM hstatic hkP hinitP hy (g := g) hg (argsL := argsL) (rest := rest) (hlen _ hsigM) hstack hdg
  rcases hK m meth c ⟨T.setVm vm₁, locs, cells, slots⟩ { g with stack := rest } (.invokestatic index) mk argsL.toArray X₁ hg hsize hdg hW (X₁.named hnamed) (hpre vm₁ X₁.warmed) with ⟨v, B, X', hpost, hsteps⟩ | ⟨q, B, X', hpost, hsteps⟩
  · exact Or.inl ⟨v, vm₁, B, X₁.warmed, X', hpost, fun target h => hstep₁ _ fun acts => by rw [doInvoke_state]; exact hsteps.trans h⟩
  · exact Or.inr ⟨q, vm₁, B, X₁.warmed, X', hpost, hstep₁ _ fun acts => by rw [doInvoke_state]; exact hsteps⟩
end Calls
theorem vx_cls {s : State} {T : State} {vm₁ : Vm} {E : String} {k : ClassId} (hW : s.WarmedH vm₁) (h : (T.setVm vm₁).vm.findClass E = some k) : s.vm.findClass E = some k := by
  have h1 : vm₁.findClass E = some k := h
  rw [hW.alike.findClass] at h1
  exact h1
/-- the method's frame g, with q thrown over it -/
def vx_W (p : Program) (l : Launch) (e : Env) (R : Room) (s : State) (m : MethodId) (args : Array Value) (below : List Frame) (meth : Method) (c : Code) (H : Heap) (locs : List Loc) (cells slots : Nat) (Q : State → Prop) (g : JFrame) (q : Addr) : Prop :=
  ∀ T : State, T.heap = H → Stand p l e R s m args below meth c T locs cells slots → ∃ t, Steps p.tables e below ((T.setTop g).pushFrame (.throwing q)) t ∧ Q t
def vx_Run (p : Program) (l : Launch) (e : Env) (R : Room) (s : State) (m : MethodId) (args : Array Value) (below : List Frame) (meth : Method) (c : Code) (H : Heap) (locs : List Loc) (cells slots mc ms : Nat) (g : JFrame) (rest : List Value) (Qa : State → Outcome → State → Prop) (XC : String → State → State → Prop) (free : Addr → Prop) : Prop :=
  ∀ T : State, T.heap = H → Stand p l e R s m args below meth c T locs cells slots →
    (∃ (v : Option Value) (st₀ t T' : State) (L : List Loc), st₀.heap = H ∧ Stand p l e R s m args below meth c T' (locs ++ L) (cells + mc) (slots + ms) ∧ (∀ q ∈ L, free q.base) ∧ T'.heap = t.heap ∧ T'.vm = t.vm ∧ Qa st₀ (.returned v) t ∧
      Goes p e below T g T' { g with pc := g.pc + 3, stack := v.toList ++ rest }) ∨
    (∃ (q : Addr) (st₀ t T' : State) (L : List Loc) (E : String) (ce : Cell), st₀.heap = H ∧ Stand p l e R s m args below meth c T' (locs ++ L) (cells + mc) (slots + ms) ∧ (∀ z ∈ L, free z.base) ∧ T'.heap = t.heap ∧ T'.vm = t.vm ∧ XC E st₀ t ∧ t.heap[q]? = some ce ∧ ce.vm = .none ∧ s.vm.findClass E = some ce.cls ∧
      Steps p.tables e below (T.setTop g) ((T'.setTop { g with stack := rest }).pushFrame (.throwing q)))
def vx_X {S : Type} (px : S → Prop) (B : String → S → State → Prop) (A : Nat → Prop) : String → State → State → Prop := fun E st t => ∃ u : S, px u ∧ B E u t ∧ va_F A st t
section Runs
variable {p : Program} {l : Launch} {e : Env} {R : Room} {s : State} {m : MethodId} {args : Array Value} {below : List Frame} {meth : Method} {c : Code} {H : Heap} {locs : List Loc} {cells slots : Nat}
variable {y : MethodName} {bytes cc : ByteArray} {maxL nL mc ms n index : Nat} {ret : Option FieldType} {ws : List Cond} {rm : Room} {Pc : Array Value → State → Prop} {Qc : Array Value → State → Outcome → State → Prop} {XC : String → State → State → Prop} {free : Addr → Prop} {Ts : List Cond} {own C : String} {b : Addr} {As rest : List Value} {g : JFrame}
theorem vx_callBack (cb : CallB R s args own index y bytes maxL ret ws rm mc ms n) (hM : vx_Met l y ws rm Pc Qc XC mc ms free) (hbl : FrameBlind Pc) : vx_Back l R p e below s args y 3 8 (PreOf R mc ms Pc) (PostOf Qc mc ms free) (vx_Post XC mc ms free) := by
  obtain ⟨hrc, hrs, hfr, hlo, hws, hcw, -, hini, -⟩ := cb
  exact vx_back (bytes := bytes) (maxL := maxL) (ret := ret) hM hbl hrc hrs hfr hlo hws hcw (fun a' U hW => word_at hW (Or.inl (by first | rfl | simp [Cond.onTables, Cond.keeps, Cond.steady])) hini)
theorem vx_runV (S : CallFix p m c cc nL s args Ts own) (hM : vx_Met l y ws rm Pc Qc XC mc ms free) (cw : CallW R s args own C index y bytes maxL ret ws rm mc ms n) (hp : PreV s H C b Pc As)
    (hg : g.method = m) (hn : As.length = n) (hsize : g.locals.size = nL) (hstack : g.stack = As.reverse ++ .ref b :: rest) (hW : 2 * g.monitorRoom + (rest.map fun v => v.category).sum ≤ 8) (hdg : decode cc g.pc = .ok (.invokevirtual index, 3)) (hf : cells + mc ≤ R.cells ∧ slots + ms ≤ R.slots) :
    vx_Run p l e R s m args below meth c H locs cells slots mc ms g rest (Qc (Value.ref b :: As).toArray) XC free := by
  have hK : vx_Back l R p e below s args y 3 8 (PreOf R mc ms Pc) (PostOf Qc mc ms free) (vx_Post XC mc ms free) := vx_callBack cw.1 hM hp.1
  obtain ⟨⟨-, -, -, -, -, -, hcode, -, hy, hlen, hl⟩, hin, hse⟩ := cw
  obtain ⟨hx, hb, hml, ho, -⟩ := S
  obtain ⟨-, ⟨cellB, hcB, hoB, hclB⟩, hPc⟩ := hp
  intro T hT X
  rcases vx_callV X hx (C := C) (bytes := bytes) (maxL := maxL) (ret := ret) ho hl hin hse hcode hy hK (by rw [hT]; exact hcB) hoB hclB hg (hsize.trans hml.symm) (argsL := As) (rest := rest) (fun sig h => hn.trans (hlen sig h)) hstack hW (by rw [hb]; exact hdg)
    (fun vm₁ hW₁ => ⟨hf.1, hf.2, hPc (T.setVm vm₁) hT hW₁⟩) with ⟨v, vm₁, ⟨U', l2, c2, s2⟩, hW₁, X', ⟨g', mk, t, L, e1, e2, hq, h1, hL, h2, h3⟩, st⟩ | ⟨q, vm₁, ⟨U', l2, c2, s2⟩, hW₁, X', ⟨g', mk, t, L, E, ce, e1, e2, hq, hce, hcv, hcl, h1, hL, h2, h3⟩, st⟩
  · dsimp only [Pt.U, Pt.locs, Pt.cells, Pt.slots] at X' e1 e2 h1 h2 h3 st
    subst h1; subst h2; subst h3
    exact Or.inl ⟨v, (T.setVm vm₁).calling g' mk (Value.ref b :: As).toArray, t, U', L, hT, X', hL, e1, e2, hq, st⟩
  · dsimp only [Pt.U, Pt.locs, Pt.cells, Pt.slots] at X' e1 e2 h1 h2 h3 st hcl
    subst h1; subst h2; subst h3
    exact Or.inr ⟨q, (T.setVm vm₁).calling g' mk (Value.ref b :: As).toArray, t, U', L, E, ce, hT, X', hL, e1, e2, hq, hce, hcv, vx_cls hW₁ hcl, st⟩
theorem vx_runS (S : CallFix p m c cc nL s args Ts own) (hM : vx_Met l y ws rm Pc Qc XC mc ms free) (cw : CallB R s args own index y bytes maxL ret ws rm mc ms n ∧ (Cond.static y).before args s = true) (hp : PreS s H Pc As)
    (hg : g.method = m) (hn : As.length = n) (hsize : g.locals.size = nL) (hstack : g.stack = As.reverse ++ rest) (hW : 2 * g.monitorRoom + (rest.map fun v => v.category).sum ≤ 8) (hdg : decode cc g.pc = .ok (.invokestatic index, 3)) (hf : cells + mc ≤ R.cells ∧ slots + ms ≤ R.slots) :
    vx_Run p l e R s m args below meth c H locs cells slots mc ms g rest (Qc As.toArray) XC free := by
  have hK : vx_Back l R p e below s args y 3 8 (PreOf R mc ms Pc) (PostOf Qc mc ms free) (vx_Post XC mc ms free) := vx_callBack cw.1 hM hp.1
  obtain ⟨⟨-, -, -, -, -, -, hcode, hini, hy, hlen, hl⟩, hstt⟩ := cw
  obtain ⟨hx, hb, hml, ho, -⟩ := S
  intro T hT X
  rcases vx_callS X hx (bytes := bytes) (maxL := maxL) (ret := ret) ho hl hstt hini hcode hy hK hg (hsize.trans hml.symm) (argsL := As) (rest := rest) (fun sig h => hn.trans (hlen sig h)) hstack hW (by rw [hb]; exact hdg)
    (fun vm₁ hW₁ => ⟨hf.1, hf.2, hp.2 (T.setVm vm₁) hT hW₁⟩) with ⟨v, vm₁, ⟨U', l2, c2, s2⟩, hW₁, X', ⟨g', mk, t, L, e1, e2, hq, h1, hL, h2, h3⟩, st⟩ | ⟨q, vm₁, ⟨U', l2, c2, s2⟩, hW₁, X', ⟨g', mk, t, L, E, ce, e1, e2, hq, hce, hcv, hcl, h1, hL, h2, h3⟩, st⟩
  · dsimp only [Pt.U, Pt.locs, Pt.cells, Pt.slots] at X' e1 e2 h1 h2 h3 st
    subst h1; subst h2; subst h3
    exact Or.inl ⟨v, (T.setVm vm₁).calling g' mk As.toArray, t, U', L, hT, X', hL, e1, e2, hq, st⟩
  · dsimp only [Pt.U, Pt.locs, Pt.cells, Pt.slots] at X' e1 e2 h1 h2 h3 st hcl
    subst h1; subst h2; subst h3
    exact Or.inr ⟨q, (T.setVm vm₁).calling g' mk As.toArray, t, U', L, E, ce, hT, X', hL, e1, e2, hq, hce, hcv, vx_cls hW₁ hcl, st⟩
end Runs
section Rows
variable {p : Program} {l : Launch} {e : Env} {R : Room} {s : State} {m : MethodId} {args : Array Value} {below : List Frame} {meth : Method} {c : Code} {H : Heap} {locs : List Loc} {cells slots : Nat} {Q : State → Prop}
variable {mc ms : Nat} {free : Addr → Prop} {A0 A1 : Nat → Prop} {H0 : Heap} {a : Array Value} {pc : Nat} {ls : Array Slot} {st0 rest : List Value}
theorem vx_keep {st₀ t T' : State} {L : List Loc} (h0 : st₀.heap = H) (e1 : T'.heap = t.heap) (hS : va_S A0 H0 H locs) (hA : ∀ q, q < H.size → A1 q → A0 q) (hf : ∀ q, free q → A0 q) (hL : ∀ q ∈ L, free q.base) (hF : va_F A1 st₀ t) :
    H.size ≤ T'.heap.size ∧ (∀ q : Nat, q < H.size → ¬ A1 q → T'.heap[q]? = H[q]?) ∧ va_S A0 H0 T'.heap (locs ++ L) := by
  obtain ⟨hz, hk⟩ := hF
  rw [h0] at hz hk
  exact ⟨by rw [e1]; exact hz, fun q h1 h2 => by rw [e1]; exact hk q h1 h2,
    ⟨Nat.le_trans hS.1 (by rw [e1]; exact hz), fun q h1 h2 => by rw [e1, hk q (Nat.lt_of_lt_of_le h1 hS.1) (fun z => h2 (hA q (Nat.lt_of_lt_of_le h1 hS.1) z))]; exact hS.2.1 q h1 h2, fun q hq => by
      rcases List.mem_append.mp hq with h | h
      · exact hS.2.2 q h
      · exact hf _ (hL q h)⟩⟩
theorem vx_calli {S SX : Type} {post : Int32 → S → Prop} {px : SX → Prop} {B : S → State → Prop} {BX : String → SX → State → Prop} {AX : Nat → Prop} (hr : vx_Run p l e R s m args below meth c H locs cells slots mc ms (F0 m pc ls st0) rest (va_Qi post B A1 a) (vx_X px BX AX) free) (hS : va_S A0 H0 H locs) (hA : ∀ q, q < H.size → A1 q → A0 q) (hf : ∀ q, free q → A0 q) (hAX : ∀ q, q < H.size → AX q → A0 q)
    (kx : ∀ (E : String) (ce : Cell) (q9 : Addr) (u : SX) (t : State) (H1 : Heap) (locs1 : List Loc), t.heap = H1 → s.vm.Alike t.vm → px u → BX E u t → H.size ≤ H1.size → (∀ q : Nat, q < H.size → ¬ AX q → H1[q]? = H[q]?) → va_S A0 H0 H1 locs1 → H1[q9]? = some ce → ce.vm = .none → s.vm.findClass E = some ce.cls → vx_W p l e R s m args below meth c H1 locs1 (cells + mc) (slots + ms) Q (F0 m pc ls rest) q9)
    (kk : ∀ (r : Int32) (u : S) (t : State) (H1 : Heap) (locs1 : List Loc), t.heap = H1 → s.vm.Alike t.vm → post r u → B u t → H.size ≤ H1.size → (∀ q : Nat, q < H.size → ¬ A1 q → H1[q]? = H[q]?) → va_S A0 H0 H1 locs1 → W p l e R s m args below meth c H1 locs1 (cells + mc) (slots + ms) Q (F0 m (pc + 3) ls (.int r :: rest))) : W p l e R s m args below meth c H locs cells slots Q (F0 m pc ls st0) := by
  intro T hT X
  rcases hr T hT X with ⟨v, st₀, t, T', L, h0, X', hL, e1, e2, ⟨⟨r, u, hv, hp, hb⟩, hF⟩, st⟩ | ⟨q, st₀, t, T', L, E, ce, h0, X', hL, e1, e2, ⟨u, hp, hb, hF⟩, hce, hcv, hcl, st⟩
  · cases hv
    obtain ⟨k1, k2, k3⟩ := vx_keep h0 e1 hS hA hf hL hF
    obtain ⟨t2, a1, b1⟩ := kk r u t T'.heap (locs ++ L) e1.symm (by rw [← e2]; exact X'.warmed.alike) hp hb k1 k2 k3 T' rfl X'
    exact ⟨t2, st t2 a1, b1⟩
  · obtain ⟨k1, k2, k3⟩ := vx_keep h0 e1 hS hAX hf hL hF
    obtain ⟨t2, a1, b1⟩ := kx E ce q u t T'.heap (locs ++ L) e1.symm (by rw [← e2]; exact X'.warmed.alike) hp hb k1 k2 k3 (by rw [e1]; exact hce) hcv hcl T' rfl X'
    exact ⟨t2, st.trans a1, b1⟩
theorem vx_calll {S SX : Type} {post : Int64 → S → Prop} {px : SX → Prop} {B : S → State → Prop} {BX : String → SX → State → Prop} {AX : Nat → Prop} (hr : vx_Run p l e R s m args below meth c H locs cells slots mc ms (F0 m pc ls st0) rest (va_Ql post B A1 a) (vx_X px BX AX) free) (hS : va_S A0 H0 H locs) (hA : ∀ q, q < H.size → A1 q → A0 q) (hf : ∀ q, free q → A0 q) (hAX : ∀ q, q < H.size → AX q → A0 q)
    (kx : ∀ (E : String) (ce : Cell) (q9 : Addr) (u : SX) (t : State) (H1 : Heap) (locs1 : List Loc), t.heap = H1 → s.vm.Alike t.vm → px u → BX E u t → H.size ≤ H1.size → (∀ q : Nat, q < H.size → ¬ AX q → H1[q]? = H[q]?) → va_S A0 H0 H1 locs1 → H1[q9]? = some ce → ce.vm = .none → s.vm.findClass E = some ce.cls → vx_W p l e R s m args below meth c H1 locs1 (cells + mc) (slots + ms) Q (F0 m pc ls rest) q9)
    (kk : ∀ (r : Int64) (u : S) (t : State) (H1 : Heap) (locs1 : List Loc), t.heap = H1 → s.vm.Alike t.vm → post r u → B u t → H.size ≤ H1.size → (∀ q : Nat, q < H.size → ¬ A1 q → H1[q]? = H[q]?) → va_S A0 H0 H1 locs1 → W p l e R s m args below meth c H1 locs1 (cells + mc) (slots + ms) Q (F0 m (pc + 3) ls (.long r :: rest))) : W p l e R s m args below meth c H locs cells slots Q (F0 m pc ls st0) := by
  intro T hT X
  rcases hr T hT X with ⟨v, st₀, t, T', L, h0, X', hL, e1, e2, ⟨⟨r, u, hv, hp, hb⟩, hF⟩, st⟩ | ⟨q, st₀, t, T', L, E, ce, h0, X', hL, e1, e2, ⟨u, hp, hb, hF⟩, hce, hcv, hcl, st⟩
  · cases hv
    obtain ⟨k1, k2, k3⟩ := vx_keep h0 e1 hS hA hf hL hF
    obtain ⟨t2, a1, b1⟩ := kk r u t T'.heap (locs ++ L) e1.symm (by rw [← e2]; exact X'.warmed.alike) hp hb k1 k2 k3 T' rfl X'
    exact ⟨t2, st t2 a1, b1⟩
  · obtain ⟨k1, k2, k3⟩ := vx_keep h0 e1 hS hAX hf hL hF
    obtain ⟨t2, a1, b1⟩ := kx E ce q u t T'.heap (locs ++ L) e1.symm (by rw [← e2]; exact X'.warmed.alike) hp hb k1 k2 k3 (by rw [e1]; exact hce) hcv hcl T' rfl X'
    exact ⟨t2, st.trans a1, b1⟩
theorem vx_callf {S SX : Type} {post : UInt32 → S → Prop} {px : SX → Prop} {B : S → State → Prop} {BX : String → SX → State → Prop} {AX : Nat → Prop} (hr : vx_Run p l e R s m args below meth c H locs cells slots mc ms (F0 m pc ls st0) rest (va_Qf post B A1 a) (vx_X px BX AX) free) (hS : va_S A0 H0 H locs) (hA : ∀ q, q < H.size → A1 q → A0 q) (hf : ∀ q, free q → A0 q) (hAX : ∀ q, q < H.size → AX q → A0 q)
    (kx : ∀ (E : String) (ce : Cell) (q9 : Addr) (u : SX) (t : State) (H1 : Heap) (locs1 : List Loc), t.heap = H1 → s.vm.Alike t.vm → px u → BX E u t → H.size ≤ H1.size → (∀ q : Nat, q < H.size → ¬ AX q → H1[q]? = H[q]?) → va_S A0 H0 H1 locs1 → H1[q9]? = some ce → ce.vm = .none → s.vm.findClass E = some ce.cls → vx_W p l e R s m args below meth c H1 locs1 (cells + mc) (slots + ms) Q (F0 m pc ls rest) q9)
    (kk : ∀ (r : UInt32) (u : S) (t : State) (H1 : Heap) (locs1 : List Loc), t.heap = H1 → s.vm.Alike t.vm → post r u → B u t → H.size ≤ H1.size → (∀ q : Nat, q < H.size → ¬ A1 q → H1[q]? = H[q]?) → va_S A0 H0 H1 locs1 → W p l e R s m args below meth c H1 locs1 (cells + mc) (slots + ms) Q (F0 m (pc + 3) ls (.float r :: rest))) : W p l e R s m args below meth c H locs cells slots Q (F0 m pc ls st0) := by
  intro T hT X
  rcases hr T hT X with ⟨v, st₀, t, T', L, h0, X', hL, e1, e2, ⟨⟨r, u, hv, hp, hb⟩, hF⟩, st⟩ | ⟨q, st₀, t, T', L, E, ce, h0, X', hL, e1, e2, ⟨u, hp, hb, hF⟩, hce, hcv, hcl, st⟩
  · cases hv
    obtain ⟨k1, k2, k3⟩ := vx_keep h0 e1 hS hA hf hL hF
    obtain ⟨t2, a1, b1⟩ := kk r u t T'.heap (locs ++ L) e1.symm (by rw [← e2]; exact X'.warmed.alike) hp hb k1 k2 k3 T' rfl X'
    exact ⟨t2, st t2 a1, b1⟩
  · obtain ⟨k1, k2, k3⟩ := vx_keep h0 e1 hS hAX hf hL hF
    obtain ⟨t2, a1, b1⟩ := kx E ce q u t T'.heap (locs ++ L) e1.symm (by rw [← e2]; exact X'.warmed.alike) hp hb k1 k2 k3 (by rw [e1]; exact hce) hcv hcl T' rfl X'
    exact ⟨t2, st.trans a1, b1⟩
theorem vx_calld {S SX : Type} {post : UInt64 → S → Prop} {px : SX → Prop} {B : S → State → Prop} {BX : String → SX → State → Prop} {AX : Nat → Prop} (hr : vx_Run p l e R s m args below meth c H locs cells slots mc ms (F0 m pc ls st0) rest (va_Qd post B A1 a) (vx_X px BX AX) free) (hS : va_S A0 H0 H locs) (hA : ∀ q, q < H.size → A1 q → A0 q) (hf : ∀ q, free q → A0 q) (hAX : ∀ q, q < H.size → AX q → A0 q)
    (kx : ∀ (E : String) (ce : Cell) (q9 : Addr) (u : SX) (t : State) (H1 : Heap) (locs1 : List Loc), t.heap = H1 → s.vm.Alike t.vm → px u → BX E u t → H.size ≤ H1.size → (∀ q : Nat, q < H.size → ¬ AX q → H1[q]? = H[q]?) → va_S A0 H0 H1 locs1 → H1[q9]? = some ce → ce.vm = .none → s.vm.findClass E = some ce.cls → vx_W p l e R s m args below meth c H1 locs1 (cells + mc) (slots + ms) Q (F0 m pc ls rest) q9)
    (kk : ∀ (r : UInt64) (u : S) (t : State) (H1 : Heap) (locs1 : List Loc), t.heap = H1 → s.vm.Alike t.vm → post r u → B u t → H.size ≤ H1.size → (∀ q : Nat, q < H.size → ¬ A1 q → H1[q]? = H[q]?) → va_S A0 H0 H1 locs1 → W p l e R s m args below meth c H1 locs1 (cells + mc) (slots + ms) Q (F0 m (pc + 3) ls (.double r :: rest))) : W p l e R s m args below meth c H locs cells slots Q (F0 m pc ls st0) := by
  intro T hT X
  rcases hr T hT X with ⟨v, st₀, t, T', L, h0, X', hL, e1, e2, ⟨⟨r, u, hv, hp, hb⟩, hF⟩, st⟩ | ⟨q, st₀, t, T', L, E, ce, h0, X', hL, e1, e2, ⟨u, hp, hb, hF⟩, hce, hcv, hcl, st⟩
  · cases hv
    obtain ⟨k1, k2, k3⟩ := vx_keep h0 e1 hS hA hf hL hF
    obtain ⟨t2, a1, b1⟩ := kk r u t T'.heap (locs ++ L) e1.symm (by rw [← e2]; exact X'.warmed.alike) hp hb k1 k2 k3 T' rfl X'
    exact ⟨t2, st t2 a1, b1⟩
  · obtain ⟨k1, k2, k3⟩ := vx_keep h0 e1 hS hAX hf hL hF
    obtain ⟨t2, a1, b1⟩ := kx E ce q u t T'.heap (locs ++ L) e1.symm (by rw [← e2]; exact X'.warmed.alike) hp hb k1 k2 k3 (by rw [e1]; exact hce) hcv hcl T' rfl X'
    exact ⟨t2, st.trans a1, b1⟩
theorem vx_callv {S SX : Type} {post : S → Prop} {px : SX → Prop} {B : S → State → Prop} {BX : String → SX → State → Prop} {AX : Nat → Prop} (hr : vx_Run p l e R s m args below meth c H locs cells slots mc ms (F0 m pc ls st0) rest (va_Qv post B A1 a) (vx_X px BX AX) free) (hS : va_S A0 H0 H locs) (hA : ∀ q, q < H.size → A1 q → A0 q) (hf : ∀ q, free q → A0 q) (hAX : ∀ q, q < H.size → AX q → A0 q)
    (kx : ∀ (E : String) (ce : Cell) (q9 : Addr) (u : SX) (t : State) (H1 : Heap) (locs1 : List Loc), t.heap = H1 → s.vm.Alike t.vm → px u → BX E u t → H.size ≤ H1.size → (∀ q : Nat, q < H.size → ¬ AX q → H1[q]? = H[q]?) → va_S A0 H0 H1 locs1 → H1[q9]? = some ce → ce.vm = .none → s.vm.findClass E = some ce.cls → vx_W p l e R s m args below meth c H1 locs1 (cells + mc) (slots + ms) Q (F0 m pc ls rest) q9)
    (kk : ∀ (u : S) (t : State) (H1 : Heap) (locs1 : List Loc), t.heap = H1 → s.vm.Alike t.vm → post u → B u t → H.size ≤ H1.size → (∀ q : Nat, q < H.size → ¬ A1 q → H1[q]? = H[q]?) → va_S A0 H0 H1 locs1 → W p l e R s m args below meth c H1 locs1 (cells + mc) (slots + ms) Q (F0 m (pc + 3) ls (rest))) : W p l e R s m args below meth c H locs cells slots Q (F0 m pc ls st0) := by
  intro T hT X
  rcases hr T hT X with ⟨v, st₀, t, T', L, h0, X', hL, e1, e2, ⟨⟨u, hv, hp, hb⟩, hF⟩, st⟩ | ⟨q, st₀, t, T', L, E, ce, h0, X', hL, e1, e2, ⟨u, hp, hb, hF⟩, hce, hcv, hcl, st⟩
  · cases hv
    obtain ⟨k1, k2, k3⟩ := vx_keep h0 e1 hS hA hf hL hF
    obtain ⟨t2, a1, b1⟩ := kk u t T'.heap (locs ++ L) e1.symm (by rw [← e2]; exact X'.warmed.alike) hp hb k1 k2 k3 T' rfl X'
    exact ⟨t2, st t2 a1, b1⟩
  · obtain ⟨k1, k2, k3⟩ := vx_keep h0 e1 hS hAX hf hL hF
    obtain ⟨t2, a1, b1⟩ := kx E ce q u t T'.heap (locs ++ L) e1.symm (by rw [← e2]; exact X'.warmed.alike) hp hb k1 k2 k3 (by rw [e1]; exact hce) hcv hcl T' rfl X'
    exact ⟨t2, st.trans a1, b1⟩
/-- caught by the row x of this method's table; the rows ahead don't take it -/
theorem vx_catch {own name : String} {E : String} {ce : Cell} {q : Addr} (hown : s.vm.findClass own = some m.cls) (pre : List ExceptionTableEntry) (x : ExceptionTableEntry) (suf : List ExceptionTableEntry) (hsplit : c.exceptionTable.toList = pre ++ x :: suf)
    (hpass : ∀ z ∈ pre, covers z pc = false ∨ (z.catchType ≠ 0 ∧ ∃ nm : String, (Cond.classLink own z.catchType nm).before args s = true ∧ va_Nc E nm s)) (hx : covers x pc = true) (h0 : x.catchType ≠ 0)
    (hlink : (Cond.classLink own x.catchType name).before args s = true) (hcast : (Cond.castable E name).before args s = true) (hcell : H[q]? = some ce) (hv : ce.vm = .none) (hcl : s.vm.findClass E = some ce.cls)
    (kk : W p l e R s m args below meth c H locs cells slots Q (F0 m x.handlerPc ls [.ref q])) : vx_W p l e R s m args below meth c H locs cells slots Q (F0 m pc ls rest) q := by
  intro T hT X
  have hpl : e.platform.magicAccessors = ({} : Platform).magicAccessors := by rw [X.admits.platform]
  obtain ⟨c3, c4, hc3, hc4, hasg⟩ := Cond.castable_spec hcast
  cases Option.some.inj (hc3.symm.trans hcl)
  obtain ⟨c5, hc5, hcl5⟩ := Cond.classLink_spec hown hlink e.platform hpl
  cases Option.some.inj (hc4.symm.trans hc5)
  obtain ⟨vm', X', st⟩ := X.thenCaughtThrough q (g := F0 m pc ls rest) rfl (Steps.refl _) (by rw [hT]; exact hcell) (by rw [hv]; rfl) (by obtain ⟨k9, h9, -⟩ := Vm.findClass_spec hcl; exact ⟨k9, h9⟩) pre x suf hsplit
    (fun z hz => by
      rcases hpass z hz with h | ⟨hz0, nm, hl1, hn1⟩
      · exact Or.inl h
      · obtain ⟨c6, hc6, hcl6⟩ := Cond.classLink_spec hown hl1 e.platform hpl
        obtain ⟨a8, b8, h1, h2, h3⟩ := hn1
        cases Option.some.inj (h1.symm.trans hcl)
        cases Option.some.inj (h2.symm.trans hc6)
        exact Or.inr ⟨hz0, _, hcl6, h3⟩) hx (Or.inr ⟨h0, c4, hcl5, hasg⟩)
  obtain ⟨t, a1, b1⟩ := kk (T.setVm vm') hT X'
  exact ⟨t, st.trans a1, b1⟩
end Rows
section Ends
variable {p : Program} {l : Launch} {e : Env} {R : Room} {s : State} {m : MethodId} {args : Array Value} {below : List Frame} {meth : Method} {c : Code} {H : Heap} {locs : List Loc} {cells slots : Nat} {Q : State → Prop}
variable {mc ms : Nat} {free : Addr → Prop} {A0 A1 : Nat → Prop} {H0 : Heap} {a : Array Value} {ls : Array Slot} {st0 rest : List Value}
variable {Qc : Array Value → State → Outcome → State → Prop} {XC : String → State → State → Prop}
/-- what a body that may throw owes at its end -/
def vx_MQ (below : List Frame) (Qc : Array Value → State → Outcome → State → Prop) (XC : String → State → State → Prop) (a : Array Value) (s : State) (mc ms : Nat) (free : Addr → Prop) : State → Prop := fun t =>
  ∃ o, t.status = .running ∧ Ended t below o ∧ vx_Q Qc XC mc ms free a s o t
theorem vx_ret {g : JFrame} {mc ms : Nat} (k : W p l e R s m args below meth c H locs cells slots (MQ below Qc args s mc ms free) g) : W p l e R s m args below meth c H locs cells slots (vx_MQ below Qc XC args s mc ms free) g := by
  intro T hT X
  obtain ⟨t, a1, o, b1, b2, b3, b4⟩ := k T hT X
  exact ⟨t, a1, o, b1, b2, Or.inl ⟨b3, b4⟩⟩
/-- not caught here: it goes on to the caller -/
theorem vx_widen {g : JFrame} {q : Addr} {k n : Nat} (h1 : cells ≤ k) (h2 : slots ≤ n) (kk : vx_W p l e R s m args below meth c H locs k n Q g q) : vx_W p l e R s m args below meth c H locs cells slots Q g q := fun T hT X => kk T hT (stand_widen X h1 h2)
theorem vx_out {pc : Nat} {E : String} {ce : Cell} {q : Addr} {mc ms : Nat} (hout : ∀ x ∈ c.exceptionTable.toList, covers x pc = false) (hlocks : meth.locks = false) (hcell : H[q]? = some ce) (hv : ce.vm = .none) (hcl : s.vm.findClass E = some ce.cls)
    (hx : ∀ t : State, t.heap = H → s.vm.Alike t.vm → XC E s t) (hf : ∀ z ∈ locs, free z.base) (hc : cells ≤ mc) (hs : slots ≤ ms) :
    vx_W p l e R s m args below meth c H locs cells slots (vx_MQ below Qc XC args s mc ms free) (F0 m pc ls rest) q := by
  intro T hT X
  obtain ⟨st1, hrun, hend, hW, hsm⟩ := X.leaveThrown q (g := F0 m pc ls rest) rfl rfl rfl hout hlocks
  have hcell9 : (T.setFrames (.throwing q :: below)).heap[q]? = some ce := by
    show T.heap[q]? = some ce
    rw [hT]; exact hcell
  exact ⟨_, st1, .threw q, hrun, hend, Or.inr ⟨q, rfl, E, ce, locs, hx _ hT hW.alike, hcell9, hv, hcl, hW, hsm.mono hc hs, hf⟩⟩
theorem vx_frame {U : State} {k n : Nat} (h : s.sameButNew ({ U with vm := s.vm } : State) locs k n) : s.heap.size ≤ U.heap.size ∧ ∀ q : Nat, q < s.heap.size → (∀ z ∈ locs, z.base ≠ q) → U.heap[q]? = s.heap[q]? := by
  obtain ⟨-, h2, -, -, -, h6⟩ := h
  refine ⟨h2, fun q hq hz => ?_⟩
  obtain ⟨c9, e1, e2, e3, e4⟩ := h6 q _ (Array.getElem?_eq_getElem hq)
  have hs : c9.slots = (s.heap[q]).slots := Array.ext_getElem? fun i => e4 i fun hm => hz _ hm rfl
  have h9 : c9 = s.heap[q] := by
    rw [hs] at e2
    exact e2
  have e5 : U.heap[q]? = some c9 := e1
  rw [e5, h9, Array.getElem?_eq_getElem hq]
/-- the words of a throw but the four that speak of the heap -/
def vx_no (w : Cond) : Bool := decide (w ≠ .isRef (.static Bundle.tN "UNASSIGNED_STACK" Bundle.steD)) && decide (w ≠ .isRef (.static Bundle.tN "SUPPRESSED_SENTINEL" Bundle.listD)) && decide (w ≠ .laysStatic Bundle.tN "UNASSIGNED_STACK" Bundle.steD) && decide (w ≠ .laysStatic Bundle.tN "SUPPRESSED_SENTINEL" Bundle.listD)
def vx_at0 (own : String) (ic : Nat) (X : String) (names : List String) : List Cond := (Bundle.ownAtoms0 own ic X names).filter vx_no
def vx_atS (own : String) (ic : Nat) (X : String) (names : List String) : List Cond := (Bundle.ownAtoms own ic X names).filter vx_no
/-- a word that the tables alone decide, or a good one -/
def vx_ot (w : Cond) : Bool := w.onTables || goodWord w
theorem vx_ot_at {args a' : Array Value} {s U : State} {w : Cond} (hW : s.WarmedH U.vm) (hvm : s.vm = U.vm) (hg : vx_ot w = true) (h : w.before args s = true) : w.before a' U = true := by
  simp only [vx_ot, Bool.or_eq_true] at hg
  rcases hg with hg | hg
  · exact va_tabs hg hvm h
  · exact word_at hW (good_of_word hg) h
/-- a list's words: the good ones out of the method's own list, the others by premises of their own -/
theorem vx_hat {args : Array Value} {s : State} {L B : List Cond} (h1 : ∀ w ∈ L.filter goodWord, w.before args s = true) (h2 : ∀ w ∈ L.filter (fun w => !goodWord w), w ∈ B) (h3 : ∀ w ∈ B, w.before args s = true) : ∀ w ∈ L, w.before args s = true := by
  intro w hw
  by_cases g : goodWord w = true
  · exact h1 w (List.mem_filter.mpr ⟨hw, g⟩)
  · refine h3 w (h2 w (List.mem_filter.mpr ⟨hw, ?_⟩))
    show (!goodWord w) = true
    cases hgw : goodWord w
    · rfl
    · exact absurd hgw g
theorem vx_c {args : Array Value} {s : State} {w : Cond} {B : List Cond} (h : w.before args s = true) (t : ∀ w ∈ B, w.before args s = true) : ∀ w' ∈ w :: B, w'.before args s = true := fun w' h' => (List.mem_cons.mp h').elim (fun e => by rw [e]; exact h) (t w')
theorem vx_n {args : Array Value} {s : State} : ∀ w ∈ ([] : List Cond), w.before args s = true := fun _ h => nomatch h
theorem vx_own {args : Array Value} {s : State} {L : List Cond} (h1 : ∀ w ∈ L.filter vx_no, w.before args s = true)
    (hU : (Cond.isRef (.static Bundle.tN "UNASSIGNED_STACK" Bundle.steD)).before args s = true) (hN : (Cond.isRef (.static Bundle.tN "SUPPRESSED_SENTINEL" Bundle.listD)).before args s = true)
    (lU : (Cond.laysStatic Bundle.tN "UNASSIGNED_STACK" Bundle.steD).before args s = true) (lN : (Cond.laysStatic Bundle.tN "SUPPRESSED_SENTINEL" Bundle.listD).before args s = true) : ∀ w ∈ L, w.before args s = true := by
  intro w hw
  by_cases e1 : w = .isRef (.static Bundle.tN "UNASSIGNED_STACK" Bundle.steD)
  · rw [e1]; exact hU
  · by_cases e2 : w = .isRef (.static Bundle.tN "SUPPRESSED_SENTINEL" Bundle.listD)
    · rw [e2]; exact hN
    · by_cases e3 : w = .laysStatic Bundle.tN "UNASSIGNED_STACK" Bundle.steD
      · rw [e3]; exact lU
      · by_cases e4 : w = .laysStatic Bundle.tN "SUPPRESSED_SENTINEL" Bundle.listD
        · rw [e4]; exact lN
        · exact h1 w (List.mem_filter.mpr ⟨hw, by unfold vx_no; rw [decide_eq_true e1, decide_eq_true e2, decide_eq_true e3, decide_eq_true e4]; rfl⟩)
/-- where a static field lies, its class's statics cell in H -/
def vx_L (C n d : String) (A : Nat → Prop) (U : State) (H : Heap) : Prop := ∃ (c : ClassId) (k : Class) (i : Nat) (f : Field) (a : Nat) (cell : Cell), U.vm.findClass C = some c ∧ U.fieldFound? C n d = some (c, k, i, f) ∧ f.isStatic = true ∧ k.statics = some a ∧ H[a]? = some cell ∧ cell.vm.isStatics = true ∧ cell.cls = c ∧ f.slot < cell.slots.size ∧ k.staticTypes[f.slot]? = some f.type ∧ ¬ A a
theorem vx_L.moved {C n d : String} {A : Nat → Prop} {u U : State} {H : Heap} (hvm : u.vm.Alike U.vm) (h : vx_L C n d A u H) : vx_L C n d A U H := by
  obtain ⟨c, k, i, f, a, cell, h1, h2, h3, h4, h5, h6, h7, h8, h9, h10⟩ := h
  obtain ⟨k', hi', he⟩ := State.fieldFound?_setVm hvm h2
  exact ⟨c, k', i, f, a, cell, by rw [hvm.findClass]; exact h1, hi', h3, by rw [he]; exact h4, h5, h6, h7, h8, by rw [he]; exact h9, h10⟩
theorem vx_L.kept {C n d : String} {A : Nat → Prop} {U : State} {H H1 : Heap} (h : vx_L C n d A U H) (hq : ∀ a : Nat, a < H.size → ¬ A a → H1[a]? = H[a]?) : vx_L C n d A U H1 := by
  obtain ⟨c, k, i, f, a, cell, h1, h2, h3, h4, h5, h6, h7, h8, h9, h10⟩ := h
  exact ⟨c, k, i, f, a, cell, h1, h2, h3, h4, by rw [hq a (Array.getElem?_eq_some_iff.mp h5).1 h10]; exact h5, h6, h7, h8, h9, h10⟩
theorem vx_L.narrow {C n d : String} {A B : Nat → Prop} {U : State} {H : Heap} (h : vx_L C n d A U H) (hAB : ∀ q, B q → A q) : vx_L C n d B U H := by
  obtain ⟨c, k, i, f, a, cell, h1, h2, h3, h4, h5, h6, h7, h8, h9, h10⟩ := h
  exact ⟨c, k, i, f, a, cell, h1, h2, h3, h4, h5, h6, h7, h8, h9, fun z => h10 (hAB _ z)⟩
theorem vx_L.word {C n d : String} {A : Nat → Prop} {s : State} {args : Array Value} (h : vx_L C n d A s s.heap) : (Cond.laysStatic C n d).before args s = true := by
  obtain ⟨c, k, i, f, a, cell, h1, h2, h3, h4, h5, h6, h7, h8, h9, -⟩ := h
  show (Cond.laysStatic C n d).holds args s none s [] = true
  exact Cond.laysStatic_of h1 h2 h3 h4 h5 h6 h7 h8 h9
/-- .. and what it holds: null or some reference -/
def vx_Zq (C n d : String) (A : Nat → Prop) (U : State) (H : Heap) : Prop := va_Zq C n d A U H ∧ vx_L C n d A U H
theorem vx_Zq.moved {C n d : String} {A : Nat → Prop} {u U : State} {H : Heap} (hvm : u.vm.Alike U.vm) (h : vx_Zq C n d A u H) : vx_Zq C n d A U H := ⟨va_Zq.moved hvm h.1, vx_L.moved hvm h.2⟩
theorem vx_Zq.kept {C n d : String} {A : Nat → Prop} {U : State} {H H1 : Heap} (h : vx_Zq C n d A U H) (hq : ∀ a : Nat, a < H.size → ¬ A a → H1[a]? = H[a]?) : vx_Zq C n d A U H1 := ⟨va_Zq.kept h.1 hq, vx_L.kept h.2 hq⟩
theorem vx_Zq.narrow {C n d : String} {A B : Nat → Prop} {U : State} {H : Heap} (h : vx_Zq C n d A U H) (hAB : ∀ q, B q → A q) : vx_Zq C n d B U H := ⟨va_Zq.narrow h.1 hAB, vx_L.narrow h.2 hAB⟩
theorem vx_Zqof {args : Array Value} {s : State} {C n d : String} {A : Nat → Prop} (hl : (Cond.laysStatic C n d).before args s = true) (hini : (Cond.initialized C).before args s = true) (h : (Cond.isRef (.static C n d)).before args s = true) (hA : ∀ a : Nat, a < s.heap.size → ¬ A a) : vx_Zq C n d A s s.heap := by
  refine ⟨va_Zqof hl hini h hA, ?_⟩
  obtain ⟨c, k, i, f, a, cell, h1, h2, h3, h4, h5, h6, h7, h8, h9⟩ := Cond.laysStatic_spec hl
  exact ⟨c, k, i, f, a, cell, h1, h2, h3, h4, h5, h6, h7, h8, h9, hA a (Array.getElem?_eq_some_iff.mp h5).1⟩
theorem vx_isRef {C n d : String} {v : Value} {A : Nat → Prop} {s : State} {args : Array Value} (h : va_Z C n d v A s s.heap) (hv : v.isRef = true) : (Cond.isRef (.static C n d)).before args s = true := by
  obtain ⟨cf, kf, fi, f, a, cell, h1, h2, h3, h4, h5, h6, h7, -⟩ := h
  have he : (Term.static C n d).eval args s none [] s = some v := by
    simp [Term.eval, State.fieldNamed?, h1, h2, h4, h5, h6, h7]
  simp only [Cond.before, Cond.holds, Cond.value, he]
  cases v <;> simp_all [Value.isRef]
theorem vx_isRefq {C n d : String} {A : Nat → Prop} {s : State} {args : Array Value} (h : va_Zq C n d A s s.heap) : (Cond.isRef (.static C n d)).before args s = true := by
  rcases h with h | ⟨t, h⟩
  · exact vx_isRef h rfl
  · exact vx_isRef h rfl
/-- the same frame, seen from here: as if the method were called anew in this heap -/
theorem vx_rebase {T : State} (X : Stand p l e R s m args below meth c T locs cells slots) {R' : Room} (hf : R'.frames ≤ R.frames) (hl : R'.locals ≤ R.locals) (hc : cells + R'.cells ≤ R.cells) (hs : slots + R'.slots ≤ R.slots) :
    Stand p l e R' ((T.setVm s.vm).setFrames (.invoking m args :: below)) m args below meth c T [] 0 0 := by
  have htop : (T.setVm s.vm).topJava?.isSome := X.here.top
  have hF : ((T.setVm s.vm).setFrames (.invoking m args :: below)).frames = .invoking m args :: below := State.frames_setFrames _ (State.cur_lt_of_top htop)
  obtain ⟨g₀, hg0⟩ := Option.isSome_iff_exists.mp htop
  obtain ⟨r, hr⟩ := State.topJava?_eq_some.mp hg0
  have hl9 : e.platform.stackLimits (T.setVm s.vm).me = e.platform.stackLimits s.me := X.limits
  have hb9 : (T.setVm s.vm).me.stackBytes = s.me.stackBytes := X.bytes
  refine ⟨X.admits, X.cas, X.clock, hF, ?_, X.hears, X.method, X.code, X.here, X.tail, X.warmed, ?_, ?_, ?_⟩
  · have h := X.room
    have hU : ((T.setVm s.vm).setFrames (.invoking m args :: below)).localsInUse = s.localsInUse := by
      rw [State.localsInUse_invoking hF (meth := meth) (c := c) X.method X.code, State.localsInUse_invoking X.frames X.method X.code]
    simp only [State.hasRoom, Bool.and_eq_true, decide_eq_true_eq] at h ⊢
    obtain ⟨⟨⟨⟨h1, h2, h3, h4, h5, h6⟩, h7⟩, h8⟩, h9⟩ := h
    rw [X.frames, List.length_cons] at h2 h3
    have q1 := X.heapSize
    have q2 := X.used
    simp only [hF, hU, List.length_cons, State.stackLimits_setFrames, State.stackBytes_setFrames, hl9, hb9]
    refine ⟨⟨⟨⟨by omega, by omega, by omega, by omega, by omega, h6⟩, ?_⟩, ?_⟩, X.book⟩
    · show T.heap.size + R'.cells ≤ e.platform.maxCells
      omega
    · show T.slotsUsed + R'.slots ≤ e.platform.maxSlots
      omega
  · rw [State.stackLimits_setFrames]; rfl
  · rw [State.stackBytes_setFrames]; rfl
  · refine ⟨?_, Nat.le_refl _, Nat.le_refl _, ?_, ?_, fun a c9 h9 => ⟨c9, h9, rfl, rfl, fun _ _ => rfl⟩⟩
    · obtain ⟨t, ht, -⟩ := State.frames_cons hr
      show T.setVm s.vm = { ((T.setVm s.vm).setFrames (.invoking m args :: below)).setFrames (T.setVm s.vm).frames with heap := T.heap, slotsUsed := T.slotsUsed }
      rw [State.setFrames_setFrames, State.setFrames_self ht]
      rfl
    · show T.slotsUsed = T.slotsUsed + ((T.heap.toList.drop T.heap.size).map (·.slots.size)).sum
      rw [List.drop_eq_nil_of_le (Nat.le_of_eq Array.length_toList)]
      rfl
    · show ((T.heap.toList.drop T.heap.size).map (·.slots.size)).sum ≤ 0
      rw [List.drop_eq_nil_of_le (Nat.le_of_eq Array.length_toList)]
      exact Nat.le_refl _
/-- 'throw new E()': new; dup; invokespecial; athrow -/
theorem vx_throw0 {cc : ByteArray} {pc : Nat} (hexec : p.tables.exec = Jvm.exec) (hb : c.code = cc) (hl : l.stackTraces = false) {own cls : String} {names : List String} {ik ic mc ms : Nat} {A : Nat → Prop}
    (hown : s.vm.findClass own = some m.cls) (hcls : Bundle.fit cls = true) (hnames : ∀ n ∈ names, Bundle.fit n = true)
    (hk : (Cond.classLink own ik cls).before args s = true) (hini : (Cond.initialized cls).before args s = true) (hat : ∀ w ∈ vx_at0 own ic cls names, w.before args s = true)
    (hgood : ∀ w ∈ Cond.classLink own ik cls :: Cond.initialized cls :: vx_at0 own ic cls names, vx_ot w = true)
    (hU : vx_Zq Bundle.tN "UNASSIGNED_STACK" Bundle.steD A s s.heap) (hN : vx_Zq Bundle.tN "SUPPRESSED_SENTINEL" Bundle.listD A s s.heap) (hS : va_S A s.heap H locs) (hsize : ls.size = c.maxLocals)
    (d0 : decode cc pc = .ok (.new ik, 3)) (d3 : decode cc (pc + 3) = .ok (.dup, 1)) (d4 : decode cc (pc + 4) = .ok (.invokespecial ic, 3)) (d7 : decode cc (pc + 7) = .ok (.athrow, 1))
    (hout : ∀ x ∈ c.exceptionTable.toList, covers x (pc + 7) = false)
    (hRframes : names.length + 3 < R.frames) (hRlocals : (rest.map fun v => v.category).sum + (13 * (names.length + 1) + 42) ≤ R.locals) (hRcells : cells + 1 ≤ R.cells) (hRslots : slots + 6 ≤ R.slots) (hlocks : meth.locks = false)
    (hx : ∀ t : State, s.vm.Alike t.vm → H.size ≤ t.heap.size → (∀ q : Nat, q < H.size → t.heap[q]? = H[q]?) → XC cls s t)
    (hf : ∀ z ∈ locs, free z.base) (hc : cells + 1 ≤ mc) (hs : slots + 6 ≤ ms) :
    W p l e R s m args below meth c H locs cells slots (vx_MQ below Qc XC args s mc ms free) (F0 m pc ls rest) := by
  intro T hT X
  have htr : e.platform.stackTraces = false := (show e.platform.stackTraces = l.stackTraces by rw [X.admits.platform]).trans hl
  have Y := vx_rebase X (R' := { frames := R.frames, locals := R.locals, cells := 1, slots := 6 }) (Nat.le_refl _) (Nat.le_refl _) hRcells hRslots
  obtain ⟨s', hA⟩ : ∃ z, z = (T.setVm s.vm).setFrames (.invoking m args :: below) := ⟨_, rfl⟩
  rw [← hA] at Y
  have hvm : s'.vm = s.vm := by rw [hA]; rfl
  have hhp : s'.heap = H := by rw [hA]; exact hT
  have hW0 : s.WarmedH s'.vm := by rw [hvm]; exact State.WarmedH.refl s
  have hat' : ∀ w ∈ vx_at0 own ic cls names, w.before args s' = true := fun w hw => vx_ot_at hW0 hvm.symm (hgood w (List.mem_cons_of_mem _ (List.mem_cons_of_mem _ hw))) (hat w hw)
  have hk' : (Cond.classLink own ik cls).before args s' = true := vx_ot_at hW0 hvm.symm (hgood _ List.mem_cons_self) hk
  have hini' : (Cond.initialized cls).before args s' = true := vx_ot_at hW0 hvm.symm (hgood _ (List.mem_cons_of_mem _ List.mem_cons_self)) hini
  have hU' : vx_Zq Bundle.tN "UNASSIGNED_STACK" Bundle.steD A s' s'.heap := by rw [hhp]; exact vx_Zq.moved hW0.alike (hU.kept hS.2.1)
  have hN' : vx_Zq Bundle.tN "SUPPRESSED_SENTINEL" Bundle.listD A s' s'.heap := by rw [hhp]; exact vx_Zq.moved hW0.alike (hN.kept hS.2.1)
  have h : ∀ w ∈ Bundle.ownAtoms0 own ic cls names, w.before args s' = true := vx_own hat' (vx_isRefq hU'.1) (vx_isRefq hN'.1) hU'.2.word hN'.2.word
  have hown' : s'.vm.findClass own = some m.cls := by rw [hvm]; exact hown
  have hins : (Cond.instantiable cls 6).before args s' = true := h _ (by simp [Bundle.ownAtoms0])
  obtain ⟨vm₁, cX, kX, hfX, hkX, -, -, X₁, st1⟩ := Y.newCold hexec (own := own) (C := cls) (index := ik) (n := 6) hown' hk' hins hini'
    (g := F0 m pc ls rest) rfl (by rw [hb]; exact d0) (Nat.le_refl _) (Nat.le_refl _)
  generalize hT1 : (T.setVm vm₁).pushCell { cls := cX, slots := kX.instanceTypes.map defaultValue, vm := .none } = T1 at X₁ st1
  have hcat : (Value.ref T.heap.size).category = 1 := rfl
  have hcellA : T1.heap[T.heap.size]? = some (freshCell cX kX) := by rw [← hT1]; exact State.heap_pushCell_size _ _
  have d3' : decode c.code (pc + 3) = .ok (.dup, 1) := by rw [hb]; exact d3
  obtain ⟨U, hsteps, hrun, hend, hW, hsame, ce, hce, hO⟩ := X₁.ctorThrow0 hexec htr (own := own) (cls := cls) (names := names) (ic := ic) hown' hcls hnames h (fun x hx => nomatch hx) hfX hkX hcellA (by rw [hhp, hT]; exact Nat.le_refl _)
    (g := { method := m, pc := pc + 4, locals := ls, stack := .ref T.heap.size :: .ref T.heap.size :: rest, locked := none }) rfl hsize rfl rfl (rest := rest) rfl
    (by rw [hb]; exact d4) (by rw [hb]; exact d7) hout hRframes (by simp only [List.map_cons, List.sum_cons, hcat]; omega) hlocks
  obtain ⟨f1, f2⟩ := vx_frame hsame
  rw [hhp] at f1 f2
  have hWs : s.WarmedH U.vm := State.WarmedH.trans hW0 hW
  have hcl : s.vm.findClass cls = some ce.cls := by
    have h9 := hO.cls
    rw [hvm] at h9
    exact h9
  have hall : s.sameButNew ({ U with vm := s.vm } : State) locs mc ms := by
    subst hA
    obtain ⟨e1, e2⟩ := hsame
    rw [State.setFrames_setFrames] at e1
    have h2 : (T.setVm s.vm).sameButNew ({ U with vm := s.vm } : State) [] (0 + 1) (0 + 6) := ⟨e1, e2⟩
    have h3 := X.same.trans h2
    rw [List.append_nil] at h3
    exact h3.mono hc hs
  refine ⟨U, ?_, .threw T.heap.size, hrun, hend, Or.inr ⟨T.heap.size, rfl, cls, ce, locs, hx U hWs.alike f1 (fun q hq => f2 q hq (fun z hz => nomatch hz)), hce, hO.vm, hcl, hWs, hall, hf⟩⟩
  refine st1 _ ?_
  show Steps p.tables e below (T1.setTop { method := m, pc := pc + 3, locals := ls, stack := .ref T.heap.size :: rest, locked := none }) _
  jvm_step X₁.here [X₁.here.top, hexec, d3', Value.category]
  exact hsteps
/-- 'throw new E("text")': new; dup; ldc; invokespecial; athrow -/
theorem vx_throwS {cc : ByteArray} {pc : Nat} (hexec : p.tables.exec = Jvm.exec) (hb : c.code = cc) (hl : l.stackTraces = false) {own cls text : String} {names : List String} {ik is ic mc ms sa : Nat} {A : Nat → Prop}
    (hown : s.vm.findClass own = some m.cls) (hcls : Bundle.fit cls = true) (hnames : ∀ n ∈ names, Bundle.fit n = true)
    (hk : (Cond.classLink own ik cls).before args s = true) (hini : (Cond.initialized cls).before args s = true) (hstr : vk_R own is text sa s) (hat : ∀ w ∈ vx_atS own ic cls names, w.before args s = true)
    (hgood : ∀ w ∈ Cond.classLink own ik cls :: Cond.initialized cls :: vx_atS own ic cls names, vx_ot w = true)
    (hU : vx_Zq Bundle.tN "UNASSIGNED_STACK" Bundle.steD A s s.heap) (hN : vx_Zq Bundle.tN "SUPPRESSED_SENTINEL" Bundle.listD A s s.heap) (hS : va_S A s.heap H locs) (hsize : ls.size = c.maxLocals)
    (d0 : decode cc pc = .ok (.new ik, 3)) (d3 : decode cc (pc + 3) = .ok (.dup, 1)) (d4 : decode cc (pc + 4) = .ok (.ldc is, 2)) (d6 : decode cc (pc + 6) = .ok (.invokespecial ic, 3)) (d9 : decode cc (pc + 9) = .ok (.athrow, 1))
    (hout : ∀ x ∈ c.exceptionTable.toList, covers x (pc + 9) = false)
    (hRframes : names.length + 3 < R.frames) (hRlocals : (rest.map fun v => v.category).sum + (13 * (names.length + 1) + 43) ≤ R.locals) (hRcells : cells + 1 ≤ R.cells) (hRslots : slots + 6 ≤ R.slots) (hlocks : meth.locks = false)
    (hx : ∀ t : State, s.vm.Alike t.vm → H.size ≤ t.heap.size → (∀ q : Nat, q < H.size → t.heap[q]? = H[q]?) → XC cls s t)
    (hf : ∀ z ∈ locs, free z.base) (hc : cells + 1 ≤ mc) (hs : slots + 6 ≤ ms) :
    W p l e R s m args below meth c H locs cells slots (vx_MQ below Qc XC args s mc ms free) (F0 m pc ls rest) := by
  intro T hT X
  have htr : e.platform.stackTraces = false := (show e.platform.stackTraces = l.stackTraces by rw [X.admits.platform]).trans hl
  have Y := vx_rebase X (R' := { frames := R.frames, locals := R.locals, cells := 1, slots := 6 }) (Nat.le_refl _) (Nat.le_refl _) hRcells hRslots
  obtain ⟨s', hA⟩ : ∃ z, z = (T.setVm s.vm).setFrames (.invoking m args :: below) := ⟨_, rfl⟩
  rw [← hA] at Y
  have hvm : s'.vm = s.vm := by rw [hA]; rfl
  have hhp : s'.heap = H := by rw [hA]; exact hT
  have hW0 : s.WarmedH s'.vm := by rw [hvm]; exact State.WarmedH.refl s
  have hat' : ∀ w ∈ vx_atS own ic cls names, w.before args s' = true := fun w hw => vx_ot_at hW0 hvm.symm (hgood w (List.mem_cons_of_mem _ (List.mem_cons_of_mem _ hw))) (hat w hw)
  have hk' : (Cond.classLink own ik cls).before args s' = true := vx_ot_at hW0 hvm.symm (hgood _ List.mem_cons_self) hk
  have hini' : (Cond.initialized cls).before args s' = true := vx_ot_at hW0 hvm.symm (hgood _ (List.mem_cons_of_mem _ List.mem_cons_self)) hini
  have hU' : vx_Zq Bundle.tN "UNASSIGNED_STACK" Bundle.steD A s' s'.heap := by rw [hhp]; exact vx_Zq.moved hW0.alike (hU.kept hS.2.1)
  have hN' : vx_Zq Bundle.tN "SUPPRESSED_SENTINEL" Bundle.listD A s' s'.heap := by rw [hhp]; exact vx_Zq.moved hW0.alike (hN.kept hS.2.1)
  have h : ∀ w ∈ Bundle.ownAtoms own ic cls names, w.before args s' = true := vx_own hat' (vx_isRefq hU'.1) (vx_isRefq hN'.1) hU'.2.word hN'.2.word
  have hown' : s'.vm.findClass own = some m.cls := by rw [hvm]; exact hown
  have hins : (Cond.instantiable cls 6).before args s' = true := h _ (by simp [Bundle.ownAtoms])
  obtain ⟨vm₁, cX, kX, hfX, hkX, -, -, X₁, st1⟩ := Y.newCold hexec (own := own) (C := cls) (index := ik) (n := 6) hown' hk' hins hini'
    (g := F0 m pc ls rest) rfl (by rw [hb]; exact d0) (Nat.le_refl _) (Nat.le_refl _)
  generalize hT1 : (T.setVm vm₁).pushCell { cls := cX, slots := kX.instanceTypes.map defaultValue, vm := .none } = T1 at X₁ st1
  have hcat : (Value.ref T.heap.size).category = 1 := rfl
  have hcellA : T1.heap[T.heap.size]? = some (freshCell cX kX) := by rw [← hT1]; exact State.heap_pushCell_size _ _
  have d3' : decode c.code (pc + 3) = .ok (.dup, 1) := by rw [hb]; exact d3
  have d4' : decode c.code (pc + 4) = .ok (.ldc is, 2) := by rw [hb]; exact d4
  have hstr' : vk_R own is text sa s' := vk_R.warm hW0 hstr
  obtain ⟨U, hsteps, hrun, hend, hW, hsame, ce, hce, hO⟩ := X₁.ctorThrowS hexec htr (own := own) (cls := cls) (names := names) (ic := ic) hown' hcls hnames h (fun x hx => nomatch hx) hfX hkX hcellA (by rw [hhp, hT]; exact Nat.le_refl _) (msg := .ref sa) rfl
    (g := { method := m, pc := pc + 6, locals := ls, stack := .ref sa :: .ref T.heap.size :: .ref T.heap.size :: rest, locked := none }) rfl hsize rfl rfl (rest := rest) rfl
    (by rw [hb]; exact d6) (by rw [hb]; exact d9) hout hRframes (by simp only [List.map_cons, List.sum_cons, hcat]; omega) hlocks
  obtain ⟨f1, f2⟩ := vx_frame hsame
  rw [hhp] at f1 f2
  have hWs : s.WarmedH U.vm := State.WarmedH.trans hW0 hW
  have hcl : s.vm.findClass cls = some ce.cls := by
    have h9 := hO.cls
    rw [hvm] at h9
    exact h9
  have hall : s.sameButNew ({ U with vm := s.vm } : State) locs mc ms := by
    subst hA
    obtain ⟨e1, e2⟩ := hsame
    rw [State.setFrames_setFrames] at e1
    have h2 : (T.setVm s.vm).sameButNew ({ U with vm := s.vm } : State) [] (0 + 1) (0 + 6) := ⟨e1, e2⟩
    have h3 := X.same.trans h2
    rw [List.append_nil] at h3
    exact h3.mono hc hs
  refine ⟨U, ?_, .threw T.heap.size, hrun, hend, Or.inr ⟨T.heap.size, rfl, cls, ce, locs, hx U hWs.alike f1 (fun q hq => f2 q hq (fun z hz => nomatch hz)), hce, hO.vm, hcl, hWs, hall, hf⟩⟩
  refine st1 _ ?_
  show Steps p.tables e below (T1.setTop { method := m, pc := pc + 3, locals := ls, stack := .ref T.heap.size :: rest, locked := none }) _
  jvm_step X₁.here [X₁.here.top, hexec, d3', Value.category]
  exact X₁.ldcString hexec (own := own) (text := text) (index := is) (a := sa) hown' hstr'.1 hstr'.2
    (g := { method := m, pc := pc + 4, locals := ls, stack := .ref T.heap.size :: .ref T.heap.size :: rest, locked := none }) rfl d4' _ hsteps
/-- 'throw new E("text")', the text by a wide index -/
theorem vx_throwSW {cc : ByteArray} {pc : Nat} (hexec : p.tables.exec = Jvm.exec) (hb : c.code = cc) (hl : l.stackTraces = false) {own cls text : String} {names : List String} {ik is ic mc ms sa : Nat} {A : Nat → Prop}
    (hown : s.vm.findClass own = some m.cls) (hcls : Bundle.fit cls = true) (hnames : ∀ n ∈ names, Bundle.fit n = true)
    (hk : (Cond.classLink own ik cls).before args s = true) (hini : (Cond.initialized cls).before args s = true) (hstr : vk_R own is text sa s) (hat : ∀ w ∈ vx_atS own ic cls names, w.before args s = true)
    (hgood : ∀ w ∈ Cond.classLink own ik cls :: Cond.initialized cls :: vx_atS own ic cls names, vx_ot w = true)
    (hU : vx_Zq Bundle.tN "UNASSIGNED_STACK" Bundle.steD A s s.heap) (hN : vx_Zq Bundle.tN "SUPPRESSED_SENTINEL" Bundle.listD A s s.heap) (hS : va_S A s.heap H locs) (hsize : ls.size = c.maxLocals)
    (d0 : decode cc pc = .ok (.new ik, 3)) (d3 : decode cc (pc + 3) = .ok (.dup, 1)) (d4 : decode cc (pc + 4) = .ok (.ldc_w is, 3)) (d7 : decode cc (pc + 7) = .ok (.invokespecial ic, 3)) (d10 : decode cc (pc + 10) = .ok (.athrow, 1))
    (hout : ∀ x ∈ c.exceptionTable.toList, covers x (pc + 10) = false)
    (hRframes : names.length + 3 < R.frames) (hRlocals : (rest.map fun v => v.category).sum + (13 * (names.length + 1) + 43) ≤ R.locals) (hRcells : cells + 1 ≤ R.cells) (hRslots : slots + 6 ≤ R.slots) (hlocks : meth.locks = false)
    (hx : ∀ t : State, s.vm.Alike t.vm → H.size ≤ t.heap.size → (∀ q : Nat, q < H.size → t.heap[q]? = H[q]?) → XC cls s t)
    (hf : ∀ z ∈ locs, free z.base) (hc : cells + 1 ≤ mc) (hs : slots + 6 ≤ ms) :
    W p l e R s m args below meth c H locs cells slots (vx_MQ below Qc XC args s mc ms free) (F0 m pc ls rest) := by
  intro T hT X
  have htr : e.platform.stackTraces = false := (show e.platform.stackTraces = l.stackTraces by rw [X.admits.platform]).trans hl
  have Y := vx_rebase X (R' := { frames := R.frames, locals := R.locals, cells := 1, slots := 6 }) (Nat.le_refl _) (Nat.le_refl _) hRcells hRslots
  obtain ⟨s', hA⟩ : ∃ z, z = (T.setVm s.vm).setFrames (.invoking m args :: below) := ⟨_, rfl⟩
  rw [← hA] at Y
  have hvm : s'.vm = s.vm := by rw [hA]; rfl
  have hhp : s'.heap = H := by rw [hA]; exact hT
  have hW0 : s.WarmedH s'.vm := by rw [hvm]; exact State.WarmedH.refl s
  have hat' : ∀ w ∈ vx_atS own ic cls names, w.before args s' = true := fun w hw => vx_ot_at hW0 hvm.symm (hgood w (List.mem_cons_of_mem _ (List.mem_cons_of_mem _ hw))) (hat w hw)
  have hk' : (Cond.classLink own ik cls).before args s' = true := vx_ot_at hW0 hvm.symm (hgood _ List.mem_cons_self) hk
  have hini' : (Cond.initialized cls).before args s' = true := vx_ot_at hW0 hvm.symm (hgood _ (List.mem_cons_of_mem _ List.mem_cons_self)) hini
  have hU' : vx_Zq Bundle.tN "UNASSIGNED_STACK" Bundle.steD A s' s'.heap := by rw [hhp]; exact vx_Zq.moved hW0.alike (hU.kept hS.2.1)
  have hN' : vx_Zq Bundle.tN "SUPPRESSED_SENTINEL" Bundle.listD A s' s'.heap := by rw [hhp]; exact vx_Zq.moved hW0.alike (hN.kept hS.2.1)
  have h : ∀ w ∈ Bundle.ownAtoms own ic cls names, w.before args s' = true := vx_own hat' (vx_isRefq hU'.1) (vx_isRefq hN'.1) hU'.2.word hN'.2.word
  have hown' : s'.vm.findClass own = some m.cls := by rw [hvm]; exact hown
  have hins : (Cond.instantiable cls 6).before args s' = true := h _ (by simp [Bundle.ownAtoms])
  obtain ⟨vm₁, cX, kX, hfX, hkX, -, -, X₁, st1⟩ := Y.newCold hexec (own := own) (C := cls) (index := ik) (n := 6) hown' hk' hins hini'
    (g := F0 m pc ls rest) rfl (by rw [hb]; exact d0) (Nat.le_refl _) (Nat.le_refl _)
  generalize hT1 : (T.setVm vm₁).pushCell { cls := cX, slots := kX.instanceTypes.map defaultValue, vm := .none } = T1 at X₁ st1
  have hcat : (Value.ref T.heap.size).category = 1 := rfl
  have hcellA : T1.heap[T.heap.size]? = some (freshCell cX kX) := by rw [← hT1]; exact State.heap_pushCell_size _ _
  have d3' : decode c.code (pc + 3) = .ok (.dup, 1) := by rw [hb]; exact d3
  have d4' : decode c.code (pc + 4) = .ok (.ldc_w is, 3) := by rw [hb]; exact d4
  have hstr' : vk_R own is text sa s' := vk_R.warm hW0 hstr
  obtain ⟨U, hsteps, hrun, hend, hW, hsame, ce, hce, hO⟩ := X₁.ctorThrowS hexec htr (own := own) (cls := cls) (names := names) (ic := ic) hown' hcls hnames h (fun x hx => nomatch hx) hfX hkX hcellA (by rw [hhp, hT]; exact Nat.le_refl _) (msg := .ref sa) rfl
    (g := { method := m, pc := pc + 7, locals := ls, stack := .ref sa :: .ref T.heap.size :: .ref T.heap.size :: rest, locked := none }) rfl hsize rfl rfl (rest := rest) rfl
    (by rw [hb]; exact d7) (by rw [hb]; exact d10) hout hRframes (by simp only [List.map_cons, List.sum_cons, hcat]; omega) hlocks
  obtain ⟨f1, f2⟩ := vx_frame hsame
  rw [hhp] at f1 f2
  have hWs : s.WarmedH U.vm := State.WarmedH.trans hW0 hW
  have hcl : s.vm.findClass cls = some ce.cls := by
    have h9 := hO.cls
    rw [hvm] at h9
    exact h9
  have hall : s.sameButNew ({ U with vm := s.vm } : State) locs mc ms := by
    subst hA
    obtain ⟨e1, e2⟩ := hsame
    rw [State.setFrames_setFrames] at e1
    have h2 : (T.setVm s.vm).sameButNew ({ U with vm := s.vm } : State) [] (0 + 1) (0 + 6) := ⟨e1, e2⟩
    have h3 := X.same.trans h2
    rw [List.append_nil] at h3
    exact h3.mono hc hs
  refine ⟨U, ?_, .threw T.heap.size, hrun, hend, Or.inr ⟨T.heap.size, rfl, cls, ce, locs, hx U hWs.alike f1 (fun q hq => f2 q hq (fun z hz => nomatch hz)), hce, hO.vm, hcl, hWs, hall, hf⟩⟩
  refine st1 _ ?_
  show Steps p.tables e below (T1.setTop { method := m, pc := pc + 3, locals := ls, stack := .ref T.heap.size :: rest, locked := none }) _
  jvm_step X₁.here [X₁.here.top, hexec, d3', Value.category]
  exact X₁.ldcStringW hexec (own := own) (text := text) (index := is) (a := sa) hown' hstr'.1 hstr'.2
    (g := { method := m, pc := pc + 4, locals := ls, stack := .ref T.heap.size :: .ref T.heap.size :: rest, locked := none }) rfl d4' _ hsteps
end Ends
section Bodies
variable {l : Launch}
theorem vx_ofW {y : MethodName} {ws ws' : List Cond} {rm : Room} {Pc : Array Value → State → Prop} {Qc : Array Value → State → Outcome → State → Prop} {XC : String → State → State → Prop} {mc ms : Nat} {free : Addr → Prop} {cc : ByteArray} {maxL : Nat} {ret : Option FieldType}
    (hy : plainName y.cls = true) (hw : ws = Cond.code y cc maxL ret :: ws')
    (body : ∀ p e s m args below meth c s₁, BodyLoose p l y (headSpec ws rm) cc maxL ret e s m args below meth c s₁ → c.maxLocals = maxL → (∀ x ∈ c.exceptionTable.toList, False) → Pc args s →
      W p l e (headSpec ws rm).room s m args below meth c s.heap [] 0 0 (vx_MQ below Qc XC args s mc ms free) (entryFrame m args maxL)) : vx_Met l y ws rm Pc Qc XC mc ms free := by
  refine MetFree.of_bodyS (code := cc) (maxLocals := maxL) (ret := ret) hy ?_ ?_
  · intro args s m h hn
    obtain ⟨meth, c, h1, h2, h3, h4, h5, h6, -, -⟩ := Cond.code_spec hn (atoms_spec (ws := ws) h _ (by rw [hw]; exact List.mem_cons_self))
    exact ⟨meth, c, h1, h2, h3, h4, h5, h6⟩
  · intro p e s m args below meth c s₁ B hml hP _
    have hh0 : s₁.heap = s.heap := by rw [B.state]; rfl
    have ht : ∀ x ∈ c.exceptionTable.toList, False := by
      obtain ⟨meth9, c9, h1, h2, -, -, -, -, h7, -⟩ := Cond.code_spec B.named (atoms_spec (ws := ws) B.pre _ (by rw [hw]; exact List.mem_cons_self))
      cases Option.some.inj (h1.symm.trans B.method)
      cases Option.some.inj (h2.symm.trans (Stand.of_body B).code)
      intro x hx
      rw [Array.isEmpty_iff.mp h7] at hx
      cases hx
    obtain ⟨t, a1, o, b1, b2, b3⟩ := body p e s m args below meth c s₁ B hml ht hP s₁ hh0 (Stand.of_body B)
    exact ⟨t, o, a1, b1, b2, b3⟩
/-- the table of a body with handlers -/
theorem vx_table {p : Program} {x y : MethodName} {S : Spec} {cc bytes : ByteArray} {maxL maxL' : Nat} {ret ret' : Option FieldType} {e : Env} {s s₁ : State} {m : MethodId} {args : Array Value} {below : List Frame} {meth : Method} {c : Code} {hh : List (Nat × Nat × Nat × Nat)}
    (B : BodyLoose p l y S cc maxL ret e s m args below meth c s₁) (h : (Cond.codeWith y bytes maxL' ret' hh).before args s = true) : c.exceptionTable.toList = tableOf hh := by
  obtain ⟨m9, meth9, c9, hn9, h1, h2, -, -, h6, -⟩ := Cond.codeWith_spec h
  cases Option.some.inj (hn9.symm.trans B.named)
  cases Option.some.inj (h1.symm.trans B.method)
  cases Option.some.inj (h2.symm.trans (Stand.of_body B).code)
  rw [← h6, table_eq]
end Bodies
end VXA
/-! ===== END ===== -/
/-! ===== BEGIN a static call of a method with an exception table ===== -/
section VXS
variable {p : Program} {l : Launch} {e : Env} {R : Room} {s : State} {m : MethodId} {args : Array Value} {below : List Frame} {meth : Method} {c : Code} {T : State} {H : Heap} {locs : List Loc} {cells slots : Nat}
abbrev vx_CSW (R : Room) (s : State) (args : Array Value) (own : String) (index : Nat) (y : MethodName) (bytes : ByteArray) (maxL : Nat) (ret : Option FieldType) (hh : List (Nat × Nat × Nat × Nat)) (ws : List Cond) (rm : Room) (mc ms n : Nat) : Prop :=
  (rm.cells = mc ∧ rm.slots = ms ∧ rm.frames + 1 ≤ R.frames ∧ 8 + (maxL + 11) + rm.locals ≤ R.locals ∧ (∀ w ∈ ws, ∀ (a' : Array Value) (U : State), s.WarmedH U.vm → w.before a' U = true) ∧ Cond.codeWith y bytes maxL ret hh ∈ ws) ∧
  (Cond.codeWith y bytes maxL ret hh).before args s = true ∧ (Cond.initialized y.cls).before args s = true ∧ (y.cls ≠ "java/lang/invoke/MethodHandle" ∧ y.cls ≠ "java/lang/invoke/VarHandle") ∧
  (∀ sig, parseMethodDescriptor y.desc = some sig → n = sig.parameters.length) ∧ (Cond.methodLink own index y).before args s = true ∧ (Cond.static y).before args s = true
theorem vx_cwSW {own : String} {index maxL mc ms : Nat} {y : MethodName} {bytes : ByteArray} {ret : Option FieldType} {hh : List (Nat × Nat × Nat × Nat)} {Ts ws ws' : List Cond} {rm : Room} (n : Nat) (ht : ∀ w ∈ Ts, w.before args s = true) (hT : GoodIn Ts (va_wsS own index y ws)) (hw : ws = Cond.codeWith y bytes maxL ret hh :: ws') (hrc : rm.cells = mc) (hrs : rm.slots = ms)
    (hd : y.cls ≠ "java/lang/invoke/MethodHandle" ∧ y.cls ≠ "java/lang/invoke/VarHandle" ∧ (parseMethodDescriptor y.desc).map (fun d => d.parameters.length) = some n) (hR : rm.frames + 1 ≤ R.frames ∧ 8 + (maxL + 11) + rm.locals ≤ R.locals) :
    vx_CSW R s args own index y bytes maxL ret hh ws rm mc ms n := by
  have ok : ∀ w ∈ va_wsS own index y ws, w.before args s = true := fun w h => ht w (hT w h).1
  have hG : GoodIn Ts ws := fun w h => hT w (by unfold va_wsS; exact List.mem_append_right _ h)
  have hc : Cond.codeWith y bytes maxL ret hh ∈ ws := by rw [hw]; exact List.mem_cons_self
  refine ⟨⟨hrc, hrs, hR.1, hR.2, pay_in ht hG, hc⟩, ht _ (hG _ hc).1, ok _ (by simp [va_wsS]), ⟨hd.1, hd.2.1⟩, fun sig h => ?_, ok _ (by simp [va_wsS]), ok _ (by simp [va_wsS])⟩
  have h2 := hd.2.2
  rw [h] at h2
  exact (Option.some.inj h2).symm
theorem vx_callSW (X : Stand p l e R s m args below meth c T locs cells slots) (hexec : p.tables.exec = Jvm.exec) {own : String} {index : Nat} {y : MethodName} {bytes : ByteArray} {maxL : Nat} {ret : Option FieldType} {hh : List (Nat × Nat × Nat × Nat)}
    (hown : s.vm.findClass own = some m.cls) (hlink : (Cond.methodLink own index y).before args s = true) (hstat : (Cond.static y).before args s = true) (hinit : (Cond.initialized y.cls).before args s = true)
    (hcode : (Cond.codeWith y bytes maxL ret hh).before args s = true) (hy : y.cls ≠ "java/lang/invoke/MethodHandle" ∧ y.cls ≠ "java/lang/invoke/VarHandle")
    {W9 : Nat} {Pre : Pt → Array Value → Prop} {Post : Pt → Array Value → Option Value → Pt → Prop} (hK : Back l R p e below s args y 3 W9 Pre Post)
    {g : JFrame} (hg : g.method = m) (hsize : g.locals.size = c.maxLocals) {argsL rest : List Value} (hlen : ∀ sig, parseMethodDescriptor y.desc = some sig → argsL.length = sig.parameters.length)
    (hstack : g.stack = argsL.reverse ++ rest) (hW : 2 * g.monitorRoom + (rest.map fun v => v.category).sum ≤ W9) (hdg : decode c.code g.pc = .ok (.invokestatic index, 3))
    (hpre : ∀ vm₁, s.WarmedH vm₁ → Pre ⟨T.setVm vm₁, locs, cells, slots⟩ argsL.toArray) :
    ∃ (v : Option Value) (vm₁ : Vm) (B : Pt), s.WarmedH vm₁ ∧ Stand p l e R s m args below meth c B.U B.locs B.cells B.slots ∧ Post ⟨T.setVm vm₁, locs, cells, slots⟩ argsL.toArray v B ∧
      ∀ target, Steps p.tables e below (B.U.setTop { g with pc := g.pc + 3, stack := v.toList ++ rest }) target → Steps p.tables e below (T.setTop g) target := by
  obtain ⟨mk, methM, cM, hnamed, hmethM, -, -, -, -, -, -, hsigM⟩ := Cond.codeWith_spec hcode
  have hstatic : methM.isStatic = true := Cond.static_spec hnamed hmethM hstat
  obtain ⟨kP, hkP, -⟩ := className_of_methodNamed hnamed
  have hinitP : kP.init = .initialized := Cond.initialized_spec (findClass_of_methodNamed hnamed) hkP hinit
  obtain ⟨vm₁, X₁, hstep₁⟩ := X.invokestatic hexec hown hlink hnamed hmethM hstatic hkP hinitP hy (g := g) hg (argsL := argsL) (rest := rest) (hlen _ hsigM) hstack hdg
  obtain ⟨v, B, X', hpost, hsteps⟩ := hK m meth c ⟨T.setVm vm₁, locs, cells, slots⟩ { g with stack := rest } (.invokestatic index) mk argsL.toArray X₁ hg hsize hdg hW (X₁.named hnamed) (hpre vm₁ X₁.warmed)
  exact ⟨v, vm₁, B, X₁.warmed, X', hpost, fun target h => hstep₁ _ fun acts => by rw [doInvoke_state]; exact hsteps.trans h⟩
theorem vx_runSW {y : MethodName} {bytes cc : ByteArray} {maxL nL mc ms n index : Nat} {ret : Option FieldType} {hh : List (Nat × Nat × Nat × Nat)} {ws : List Cond} {rm : Room} {Pc : Array Value → State → Prop} {Qc : Array Value → State → Outcome → State → Prop} {free : Addr → Prop} {Ts : List Cond} {own : String} {As rest : List Value} {g : JFrame}
    (S : CallFix p m c cc nL s args Ts own) (hM : Met l y ws rm Pc Qc mc ms free) (cw : vx_CSW R s args own index y bytes maxL ret hh ws rm mc ms n) (hp : PreS s H Pc As)
    (hg : g.method = m) (hn : As.length = n) (hsize : g.locals.size = nL) (hstack : g.stack = As.reverse ++ rest) (hW : 2 * g.monitorRoom + (rest.map fun v => v.category).sum ≤ 8) (hdg : decode cc g.pc = .ok (.invokestatic index, 3)) (hf : cells + mc ≤ R.cells ∧ slots + ms ≤ R.slots) :
    va_Run p l e R s m args below meth c H locs cells slots mc ms g rest (Qc As.toArray) (free) := by
  obtain ⟨⟨hrc, hrs, hfr, hlo, hws, hcw⟩, hcode, hini, hy, hlen, hl, hstt⟩ := cw
  have hK : Back l R p e below s args y 3 8 (PreOf R mc ms Pc) (PostOf Qc mc ms free) := va_backW (hh := hh) (bytes := bytes) (maxL := maxL) (ret := ret) hM hp.1 hrc hrs hfr hlo hws hcw (fun a' U hW => word_at hW (Or.inl (by first | rfl | simp [Cond.onTables, Cond.keeps, Cond.steady])) hini)
  obtain ⟨hx, hb, hml, ho, -⟩ := S
  intro T hT X
  obtain ⟨v, vm₁, ⟨U', l2, c2, s2⟩, hW₁, X', ⟨g', mk, t, L, e1, e2, hq, h1, hL, h2, h3⟩, st⟩ := vx_callSW X hx (hh := hh) (bytes := bytes) (maxL := maxL) (ret := ret) ho hl hstt hini hcode hy hK hg (hsize.trans hml.symm) (argsL := As) (rest := rest) (fun sig h => hn.trans (hlen sig h)) hstack hW (by rw [hb]; exact hdg)
    (fun vm₁ hW₁ => ⟨hf.1, hf.2, hp.2 (T.setVm vm₁) hT hW₁⟩)
  dsimp only [Pt.U, Pt.locs, Pt.cells, Pt.slots] at X' e1 e2 h1 h2 h3 st
  subst h1; subst h2; subst h3
  exact ⟨v, (T.setVm vm₁).calling g' mk As.toArray, t, U', L, hT, X', hL, e1, e2, hq, st⟩
/-- not caught here, past rows that name other classes: it goes on to the caller -/
theorem vx_outP {p : Program} {l : Launch} {e : Env} {R : Room} {s : State} {m : MethodId} {args : Array Value} {below : List Frame} {meth : Method} {c : Code} {H : Heap} {locs : List Loc} {cells slots : Nat} {free : Addr → Prop} {ls : Array Slot} {rest : List Value} {Qc : Array Value → State → Outcome → State → Prop} {XC : String → State → State → Prop}
    {pc : Nat} {own E : String} {ce : Cell} {q : Addr} {mc ms : Nat} (hown : s.vm.findClass own = some m.cls) (hlocks : meth.locks = false)
    (hpass : ∀ z ∈ c.exceptionTable.toList, covers z pc = false ∨ (z.catchType ≠ 0 ∧ ∃ nm : String, (Cond.classLink own z.catchType nm).before args s = true ∧ va_Nc E nm s)) (hcell : H[q]? = some ce) (hv : ce.vm = .none) (hcl : s.vm.findClass E = some ce.cls)
    (hx : ∀ t : State, t.heap = H → s.vm.Alike t.vm → XC E s t) (hf : ∀ z ∈ locs, free z.base) (hc : cells ≤ mc) (hs : slots ≤ ms) :
    vx_W p l e R s m args below meth c H locs cells slots (vx_MQ below Qc XC args s mc ms free) (F0 m pc ls rest) q := by
  intro T hT X
  have hpl : e.platform.magicAccessors = ({} : Platform).magicAccessors := by rw [X.admits.platform]
  obtain ⟨vm', hW', X', st⟩ := X.outThrough hlocks q (g := F0 m pc ls rest) rfl rfl rfl (cell := ce) (by rw [hT]; exact hcell) (by rw [hv]; rfl)
    (by obtain ⟨k9, h9, -⟩ := Vm.findClass_spec hcl; exact ⟨k9, h9⟩) (fun z hz => by
      rcases hpass z hz with h | ⟨hz0, nm, hl1, hn1⟩
      · exact Or.inl h
      · obtain ⟨c6, hc6, hcl6⟩ := Cond.classLink_spec hown hl1 e.platform hpl
        obtain ⟨a8, b8, h1, h2, h3⟩ := hn1
        cases Option.some.inj (h1.symm.trans hcl)
        cases Option.some.inj (h2.symm.trans hc6)
        exact Or.inr ⟨hz0, _, hcl6, h3⟩)
  obtain ⟨g₀, hfr⟩ := X'.frames_eq
  have hcell9 : ((T.setVm vm').setFrames (.throwing q :: below)).heap[q]? = some ce := by
    show T.heap[q]? = some ce
    rw [hT]; exact hcell
  have hend : Ended ((T.setVm vm').setFrames (.throwing q :: below)) below (.threw q) := State.frames_setFrames _ (State.cur_lt_of_frames hfr)
  refine ⟨(T.setVm vm').setFrames (.throwing q :: below), ?_, .threw q, X'.here.running, hend, Or.inr ⟨q, rfl, E, ce, locs, hx _ hT (X'.ends _).1.alike, hcell9, hv, hcl, (X'.ends _).1, (X'.ends _).2.mono hc hs, hf⟩⟩
  rw [X.pushThrowing_eq]
  exact st
/-- a thing of a world lies in the heap -/
theorem vx_lt {D : va_G} {cl : List vw_C} {ws : va_W} {H1 : Heap} (h : va_P D cl ws H1) {k : Nat} {q : Nat × va_E} (hk : ws[k]? = some q) : q.1 < H1.size := (h k q hk).lt
end VXS
/-! ===== END ===== -/
/-! ===== BEGIN methods with a table of their own: called by a name, returning or throwing ===== -/
section VXH
/-! vx_backW, vx_callVX, vx_callSX, vx_callVW, vx_runVW, vx_runVX, vx_runSX, vx_ofWH follow the same proofs as their sisters above (Free/Laws.lean, Shelf42/LK1.lean); vx_outP calls Shelf42/NT130.lean (outThrough). -/
section
variable {l : Launch} {R : Room} {p : Program} {e : Env} {below : List Frame} {s : State} {sargs : Array Value} {y : MethodName} {len W9 : Nat}
theorem vx_backW {ws : List Cond} {rm : Room} {Pc : Array Value → State → Prop} {Qc : Array Value → State → Outcome → State → Prop} {XC : String → State → State → Prop} {mc ms : Nat} {free : Addr → Prop} {bytes : ByteArray} {maxL : Nat} {ret : Option FieldType} {hh : List (Nat × Nat × Nat × Nat)}
    (hM : vx_Met l y ws rm Pc Qc XC mc ms free) (hblind : FrameBlind Pc) (hrc : rm.cells = mc) (hrs : rm.slots = ms)
    (hframes : rm.frames + 1 ≤ R.frames) (hlocals : W9 + (maxL + 11) + rm.locals ≤ R.locals)
    (hws : ∀ w ∈ ws, ∀ a' U, s.WarmedH U.vm → w.before a' U = true) (hcode : Cond.codeWith y bytes maxL ret hh ∈ ws) (hinit : ∀ a' U, s.WarmedH U.vm → (Cond.initialized y.cls).before a' U = true) :
    vx_Back l R p e below s sargs y len W9 (PreOf R mc ms Pc) (PostOf Qc mc ms free) (vx_Post XC mc ms free) := by
  intro m meth c A g ig mk a X hg hsize hdg hW hn hp
  have h1 : (headSpec ws rm).pre.before a A.U = true := atoms_intro fun w hw => hws w hw _ _ X.warmed
  have h2 : (Cond.codeWith y bytes maxL ret hh).before a A.U = true := hws _ hcode _ _ X.warmed
  have h3 : (Cond.initialized y.cls).before a A.U = true := hinit _ _ X.warmed
  have h4 : A.cells + (headSpec ws rm).room.cells ≤ R.cells := by rw [show (headSpec ws rm).room.cells = mc from hrc]; exact hp.1
  have h5 : A.slots + (headSpec ws rm).room.slots ≤ R.slots := by rw [show (headSpec ws rm).room.slots = ms from hrs]; exact hp.2.1
  have hPc : Pc a (A.U.calling g mk a) := hblind _ _ _ _ hp.2.2
  obtain ⟨U, Ls, c0, s0⟩ := A
  dsimp only [Pt.U, Pt.locs, Pt.cells, Pt.slots] at h1 h2 h3 h4 h5 X hn hPc ⊢
  obtain ⟨m9, methY, cY, hn9, hmY, hcY, -, hlY, -⟩ := Cond.codeWith_spec h2
  cases Option.some.inj (hn9.symm.trans hn)
  obtain ⟨kY, hkY, -⟩ := className_of_methodNamed hn
  have hinitY : kY.init = .initialized := Cond.initialized_spec (findClass_of_methodNamed hn) hkY h3
  have h : At U g.method c below := by rw [hg]; exact X.here
  have hlocals9 : W9 + (maxL + 11) + (headSpec ws rm).room.locals ≤ R.locals := hlocals
  have happ : (headSpec ws rm).appliesLoose y e.platform (U.calling g mk a) = true :=
    Spec.appliesLoose_calling (g := g) h hdg hn hkY hinitY
      (X.room_calling (g := g) (R' := (headSpec ws rm).room) hsize hmY hcY hframes (by rw [hlY]; omega) h4 h5) h1
  obtain ⟨mid, hmid⟩ := h.above
  have hfr : (U.setTop g).frames = (.java g :: mid) ++ below := by rw [State.frames_setTop' g h.top, hmid]; rfl
  obtain ⟨o, s₂, hsteps, -, hend, hq⟩ := Steps.callFree hM p X.admits X.cas X.clock (acts := []) hfr happ hPc trivial
  have hq' : vx_Q Qc XC mc ms free a (U.calling g mk a) o s₂ := hq
  rw [State.frames_setTop' g h.top] at hend
  obtain ⟨g₀, hg0⟩ := Option.isSome_iff_exists.mp h.top
  obtain ⟨r, hr⟩ := State.topJava?_eq_some.mp hg0
  have hr' : (({ U with heap := s₂.heap, slotsUsed := s₂.slotsUsed } : State).setVm s₂.vm).frames = .java g₀ :: r := hr
  rcases hq' with ⟨hqc, L, hfe, hL⟩ | ⟨q, rfl, E, ce, L, hx, hce, hcv, hcl, hW₂, hsm, hL⟩
  · obtain ⟨⟨v, rfl⟩, hW₂, e2, q2, q3, q4, q5, q6⟩ := id hfe
    have e3 : s₂ = ({ (U.calling g mk a).setFrames s₂.frames with heap := s₂.heap, slotsUsed := s₂.slotsUsed } : State).setVm s₂.vm := by
      have : s₂ = ({ s₂ with vm := (U.calling g mk a).vm } : State).setVm s₂.vm := rfl
      rw [e2] at this
      exact this
    obtain ⟨c₂, i₂, len₂, hc₂, hd₂, hf₂⟩ := hend
    have hW' : U.WarmedH s₂.vm := hW₂
    have hcc : c₂ = c := by
      have h1 : s₂.code? g.method = U.code? g.method := by
        rw [State.code?_eq, State.code?_eq, hW'.alike.method?]
      exact Option.some.inj (hc₂.symm.trans (h1.trans h.code))
    subst hcc
    have hlen : len₂ = len := by rw [hdg] at hd₂; cases hd₂; rfl
    subst hlen
    have hs₂ : s₂ = (({ U with heap := s₂.heap, slotsUsed := s₂.slotsUsed } : State).setVm s₂.vm).setTop { g with pc := g.pc + len₂, stack := v.toList ++ g.stack } := by
      refine e3.trans ?_
      rw [hf₂, State.calling_eq h.top, State.setFrames_setFrames, State.setTop_of_frames _ hr', hr]
      rfl
    have hsame : U.sameButNew ({ U with heap := s₂.heap, slotsUsed := s₂.slotsUsed } : State) L mc ms := by
      refine ⟨?_, q2, q3, q4, q5, q6⟩
      obtain ⟨t, ht, -⟩ := State.frames_cons hr
      show ({ U with heap := s₂.heap, slotsUsed := s₂.slotsUsed } : State) = { U.setFrames U.frames with heap := s₂.heap, slotsUsed := s₂.slotsUsed }
      rw [State.setFrames_self ht]
    subst hg
    refine Or.inl ⟨v, ⟨(({ U with heap := s₂.heap, slotsUsed := s₂.slotsUsed } : State).setVm s₂.vm), Ls ++ L, c0 + mc, s0 + ms⟩,
      ⟨X.admits, X.cas, X.clock, X.frames, X.room, X.hears, X.method, X.code, (X.here.setHeapUsed s₂.heap s₂.slotsUsed).setVm hW'.alike, X.tail, State.WarmedH.trans X.warmed hW', X.limits, X.bytes, X.same.trans (hsame.setVm s.vm)⟩,
      ⟨g, mk, s₂, L, rfl, rfl, hqc, rfl, hL, rfl, rfl⟩, ?_⟩
    show Steps p.tables e below _ ((({ U with heap := s₂.heap, slotsUsed := s₂.slotsUsed } : State).setVm s₂.vm).setTop { g with pc := g.pc + len₂, stack := v.toList ++ g.stack })
    rw [← hs₂]
    exact hsteps
  · obtain ⟨e2, q2, q3, q4, q5, q6⟩ := id hsm
    have e3 : s₂ = ({ (U.calling g mk a).setFrames s₂.frames with heap := s₂.heap, slotsUsed := s₂.slotsUsed } : State).setVm s₂.vm := by
      have : s₂ = ({ s₂ with vm := (U.calling g mk a).vm } : State).setVm s₂.vm := rfl
      rw [e2] at this
      exact this
    have hf₂ : s₂.frames = .throwing q :: .java g :: U.frames.tail := hend
    have hW' : U.WarmedH s₂.vm := hW₂
    have hs₂ : s₂ = ((({ U with heap := s₂.heap, slotsUsed := s₂.slotsUsed } : State).setVm s₂.vm).setTop g).pushFrame (.throwing q) := by
      refine e3.trans ?_
      rw [hf₂, State.calling_eq h.top, State.setFrames_setFrames, State.pushFrame, State.frames_setTop _ hr', State.setTop_of_frames _ hr', State.setFrames_setFrames, hr]
      rfl
    have hsame : U.sameButNew ({ U with heap := s₂.heap, slotsUsed := s₂.slotsUsed } : State) L mc ms := by
      refine ⟨?_, q2, q3, q4, q5, q6⟩
      obtain ⟨t, ht, -⟩ := State.frames_cons hr
      show ({ U with heap := s₂.heap, slotsUsed := s₂.slotsUsed } : State) = { U.setFrames U.frames with heap := s₂.heap, slotsUsed := s₂.slotsUsed }
      rw [State.setFrames_self ht]
    subst hg
    refine Or.inr ⟨q, ⟨(({ U with heap := s₂.heap, slotsUsed := s₂.slotsUsed } : State).setVm s₂.vm), Ls ++ L, c0 + mc, s0 + ms⟩,
      ⟨X.admits, X.cas, X.clock, X.frames, X.room, X.hears, X.method, X.code, (X.here.setHeapUsed s₂.heap s₂.slotsUsed).setVm hW'.alike, X.tail, State.WarmedH.trans X.warmed hW', X.limits, X.bytes, X.same.trans (hsame.setVm s.vm)⟩,
      ⟨g, mk, s₂, L, E, ce, rfl, rfl, hx, hce, hcv, hcl, rfl, hL, rfl, rfl⟩, ?_⟩
    show Steps p.tables e below _ (((({ U with heap := s₂.heap, slotsUsed := s₂.slotsUsed } : State).setVm s₂.vm).setTop g).pushFrame (.throwing q))
    rw [← hs₂]
    exact hsteps
end
variable {p : Program} {l : Launch} {e : Env} {R : Room} {s : State} {m : MethodId} {args : Array Value} {below : List Frame} {meth : Method} {c : Code} {T : State} {H : Heap} {locs : List Loc} {cells slots : Nat}
theorem vx_callVX (X : Stand p l e R s m args below meth c T locs cells slots) (hexec : p.tables.exec = Jvm.exec) {own C : String} {index : Nat} {y : MethodName} {bytes : ByteArray} {maxL : Nat} {ret : Option FieldType} {hh : List (Nat × Nat × Nat × Nat)}
    (hown : s.vm.findClass own = some m.cls) (hlink : (Cond.methodLink own index y).before args s = true) (hinst : (Cond.instanceMethod y).before args s = true) (hsel : (Cond.selects C y y).before args s = true)
    (hcode : (Cond.codeWith y bytes maxL ret hh).before args s = true) (hy : y.cls ≠ "java/lang/invoke/MethodHandle" ∧ y.cls ≠ "java/lang/invoke/VarHandle")
    {W9 : Nat} {Pre : Pt → Array Value → Prop} {Post : Pt → Array Value → Option Value → Pt → Prop} {PostX : Pt → Array Value → Addr → Pt → Prop} (hK : vx_Back l R p e below s args y 3 W9 Pre Post PostX)
    {b : Addr} {cellB : Cell} (hcell : T.heap[b]? = some cellB) (hobj : cellB.vm.isStatics = false) (hcls : s.vm.findClass C = some cellB.cls)
    {g : JFrame} (hg : g.method = m) (hsize : g.locals.size = c.maxLocals) {argsL rest : List Value} (hlen : ∀ sig, parseMethodDescriptor y.desc = some sig → argsL.length = sig.parameters.length)
    (hstack : g.stack = argsL.reverse ++ .ref b :: rest) (hW : 2 * g.monitorRoom + (rest.map fun v => v.category).sum ≤ W9) (hdg : decode c.code g.pc = .ok (.invokevirtual index, 3))
    (hpre : ∀ vm₁, s.WarmedH vm₁ → Pre ⟨T.setVm vm₁, locs, cells, slots⟩ (Value.ref b :: argsL).toArray) :
    (∃ (v : Option Value) (vm₁ : Vm) (B : Pt), s.WarmedH vm₁ ∧ Stand p l e R s m args below meth c B.U B.locs B.cells B.slots ∧ Post ⟨T.setVm vm₁, locs, cells, slots⟩ (Value.ref b :: argsL).toArray v B ∧
      ∀ target, Steps p.tables e below (B.U.setTop { g with pc := g.pc + 3, stack := v.toList ++ rest }) target → Steps p.tables e below (T.setTop g) target) ∨
    (∃ (q : Addr) (vm₁ : Vm) (B : Pt), s.WarmedH vm₁ ∧ Stand p l e R s m args below meth c B.U B.locs B.cells B.slots ∧ PostX ⟨T.setVm vm₁, locs, cells, slots⟩ (Value.ref b :: argsL).toArray q B ∧
      Steps p.tables e below (T.setTop g) ((B.U.setTop { g with stack := rest }).pushFrame (.throwing q))) := by
  obtain ⟨mk, methM, hnamed, hmethM, hstM, habM⟩ := Cond.instanceMethod_spec hinst
  obtain ⟨m8, methM', cM, hn8, hmethM', -, -, -, -, -, -, hsigM⟩ := Cond.codeWith_spec hcode
  cases Option.some.inj (hn8.symm.trans hnamed)
  cases hmethM.symm.trans hmethM'
  obtain ⟨c2, r2, m2, q1, q2, q3, q4, kP, hkP, hkPi⟩ := Cond.selects_spec hsel
  cases hcls.symm.trans q1
  cases (State.methodFound?_of_named hnamed hy).symm.trans q2
  cases hnamed.symm.trans q3
  have hselP : selectMethod e.platform s.vm cellB.cls mk = .method mk := by rw [Launch.admits_selectMethod X.admits]; exact q4
  obtain ⟨vm₁, X₁, hstep₁⟩ := X.invokevirtual hexec hown hlink hnamed hmethM hstM hkP hkPi hy (a := b) (cell := cellB) hcell
    (fun z h => by rw [h] at hobj; cases hobj) hselP hmethM habM hkP hkPi (g := g) hg (argsL := argsL) (rest := rest) (hlen _ hsigM) hstack hdg
  rcases hK m meth c ⟨T.setVm vm₁, locs, cells, slots⟩ { g with stack := rest } (.invokevirtual index) mk (Value.ref b :: argsL).toArray X₁ hg hsize hdg hW (X₁.named hnamed) (hpre vm₁ X₁.warmed) with ⟨v, B, X', hpost, hsteps⟩ | ⟨q, B, X', hpost, hsteps⟩
  · exact Or.inl ⟨v, vm₁, B, X₁.warmed, X', hpost, fun target h => hstep₁ _ fun acts => by rw [doInvoke_state]; exact hsteps.trans h⟩
  · exact Or.inr ⟨q, vm₁, B, X₁.warmed, X', hpost, hstep₁ _ fun acts => by rw [doInvoke_state]; exact hsteps⟩
theorem vx_callSX (X : Stand p l e R s m args below meth c T locs cells slots) (hexec : p.tables.exec = Jvm.exec) {own : String} {index : Nat} {y : MethodName} {bytes : ByteArray} {maxL : Nat} {ret : Option FieldType} {hh : List (Nat × Nat × Nat × Nat)}
    (hown : s.vm.findClass own = some m.cls) (hlink : (Cond.methodLink own index y).before args s = true) (hstat : (Cond.static y).before args s = true) (hinit : (Cond.initialized y.cls).before args s = true)
    (hcode : (Cond.codeWith y bytes maxL ret hh).before args s = true) (hy : y.cls ≠ "java/lang/invoke/MethodHandle" ∧ y.cls ≠ "java/lang/invoke/VarHandle")
    {W9 : Nat} {Pre : Pt → Array Value → Prop} {Post : Pt → Array Value → Option Value → Pt → Prop} {PostX : Pt → Array Value → Addr → Pt → Prop} (hK : vx_Back l R p e below s args y 3 W9 Pre Post PostX)
    {g : JFrame} (hg : g.method = m) (hsize : g.locals.size = c.maxLocals) {argsL rest : List Value} (hlen : ∀ sig, parseMethodDescriptor y.desc = some sig → argsL.length = sig.parameters.length)
    (hstack : g.stack = argsL.reverse ++ rest) (hW : 2 * g.monitorRoom + (rest.map fun v => v.category).sum ≤ W9) (hdg : decode c.code g.pc = .ok (.invokestatic index, 3))
    (hpre : ∀ vm₁, s.WarmedH vm₁ → Pre ⟨T.setVm vm₁, locs, cells, slots⟩ argsL.toArray) :
    (∃ (v : Option Value) (vm₁ : Vm) (B : Pt), s.WarmedH vm₁ ∧ Stand p l e R s m args below meth c B.U B.locs B.cells B.slots ∧ Post ⟨T.setVm vm₁, locs, cells, slots⟩ argsL.toArray v B ∧
      ∀ target, Steps p.tables e below (B.U.setTop { g with pc := g.pc + 3, stack := v.toList ++ rest }) target → Steps p.tables e below (T.setTop g) target) ∨
    (∃ (q : Addr) (vm₁ : Vm) (B : Pt), s.WarmedH vm₁ ∧ Stand p l e R s m args below meth c B.U B.locs B.cells B.slots ∧ PostX ⟨T.setVm vm₁, locs, cells, slots⟩ argsL.toArray q B ∧
      Steps p.tables e below (T.setTop g) ((B.U.setTop { g with stack := rest }).pushFrame (.throwing q))) := by
  obtain ⟨mk, methM, cM, hnamed, hmethM, -, -, -, -, -, -, hsigM⟩ := Cond.codeWith_spec hcode
  have hstatic : methM.isStatic = true := Cond.static_spec hnamed hmethM hstat
  obtain ⟨kP, hkP, -⟩ := className_of_methodNamed hnamed
  have hinitP : kP.init = .initialized := Cond.initialized_spec (findClass_of_methodNamed hnamed) hkP hinit
  obtain ⟨vm₁, X₁, hstep₁⟩ := X.invokestatic hexec hown hlink hnamed hmethM hstatic hkP hinitP hy (g := g) hg (argsL := argsL) (rest := rest) (hlen _ hsigM) hstack hdg
  rcases hK m meth c ⟨T.setVm vm₁, locs, cells, slots⟩ { g with stack := rest } (.invokestatic index) mk argsL.toArray X₁ hg hsize hdg hW (X₁.named hnamed) (hpre vm₁ X₁.warmed) with ⟨v, B, X', hpost, hsteps⟩ | ⟨q, B, X', hpost, hsteps⟩
  · exact Or.inl ⟨v, vm₁, B, X₁.warmed, X', hpost, fun target h => hstep₁ _ fun acts => by rw [doInvoke_state]; exact hsteps.trans h⟩
  · exact Or.inr ⟨q, vm₁, B, X₁.warmed, X', hpost, hstep₁ _ fun acts => by rw [doInvoke_state]; exact hsteps⟩
theorem vx_callVW (X : Stand p l e R s m args below meth c T locs cells slots) (hexec : p.tables.exec = Jvm.exec) {own C : String} {index : Nat} {y : MethodName} {bytes : ByteArray} {maxL : Nat} {ret : Option FieldType} {hh : List (Nat × Nat × Nat × Nat)}
    (hown : s.vm.findClass own = some m.cls) (hlink : (Cond.methodLink own index y).before args s = true) (hinst : (Cond.instanceMethod y).before args s = true) (hsel : (Cond.selects C y y).before args s = true)
    (hcode : (Cond.codeWith y bytes maxL ret hh).before args s = true) (hy : y.cls ≠ "java/lang/invoke/MethodHandle" ∧ y.cls ≠ "java/lang/invoke/VarHandle")
    {W9 : Nat} {Pre : Pt → Array Value → Prop} {Post : Pt → Array Value → Option Value → Pt → Prop} (hK : Back l R p e below s args y 3 W9 Pre Post)
    {b : Addr} {cellB : Cell} (hcell : T.heap[b]? = some cellB) (hobj : cellB.vm.isStatics = false) (hcls : s.vm.findClass C = some cellB.cls)
    {g : JFrame} (hg : g.method = m) (hsize : g.locals.size = c.maxLocals) {argsL rest : List Value} (hlen : ∀ sig, parseMethodDescriptor y.desc = some sig → argsL.length = sig.parameters.length)
    (hstack : g.stack = argsL.reverse ++ .ref b :: rest) (hW : 2 * g.monitorRoom + (rest.map fun v => v.category).sum ≤ W9) (hdg : decode c.code g.pc = .ok (.invokevirtual index, 3))
    (hpre : ∀ vm₁, s.WarmedH vm₁ → Pre ⟨T.setVm vm₁, locs, cells, slots⟩ (Value.ref b :: argsL).toArray) :
    ∃ (v : Option Value) (vm₁ : Vm) (B : Pt), s.WarmedH vm₁ ∧ Stand p l e R s m args below meth c B.U B.locs B.cells B.slots ∧ Post ⟨T.setVm vm₁, locs, cells, slots⟩ (Value.ref b :: argsL).toArray v B ∧
      ∀ target, Steps p.tables e below (B.U.setTop { g with pc := g.pc + 3, stack := v.toList ++ rest }) target → Steps p.tables e below (T.setTop g) target := by
  obtain ⟨mk, methM, hnamed, hmethM, hstM, habM⟩ := Cond.instanceMethod_spec hinst
  obtain ⟨m8, methM', cM, hn8, hmethM', -, -, -, -, -, -, hsigM⟩ := Cond.codeWith_spec hcode
  cases Option.some.inj (hn8.symm.trans hnamed)
  cases hmethM.symm.trans hmethM'
  obtain ⟨c2, r2, m2, q1, q2, q3, q4, kP, hkP, hkPi⟩ := Cond.selects_spec hsel
  cases hcls.symm.trans q1
  cases (State.methodFound?_of_named hnamed hy).symm.trans q2
  cases hnamed.symm.trans q3
  have hselP : selectMethod e.platform s.vm cellB.cls mk = .method mk := by rw [Launch.admits_selectMethod X.admits]; exact q4
  obtain ⟨vm₁, X₁, hstep₁⟩ := X.invokevirtual hexec hown hlink hnamed hmethM hstM hkP hkPi hy (a := b) (cell := cellB) hcell
    (fun z h => by rw [h] at hobj; cases hobj) hselP hmethM habM hkP hkPi (g := g) hg (argsL := argsL) (rest := rest) (hlen _ hsigM) hstack hdg
  obtain ⟨v, B, X', hpost, hsteps⟩ := hK m meth c ⟨T.setVm vm₁, locs, cells, slots⟩ { g with stack := rest } (.invokevirtual index) mk (Value.ref b :: argsL).toArray X₁ hg hsize hdg hW (X₁.named hnamed) (hpre vm₁ X₁.warmed)
  exact ⟨v, vm₁, B, X₁.warmed, X', hpost, fun target h => hstep₁ _ fun acts => by rw [doInvoke_state]; exact hsteps.trans h⟩
abbrev vx_CVW (R : Room) (s : State) (args : Array Value) (own C : String) (index : Nat) (y : MethodName) (bytes : ByteArray) (maxL : Nat) (ret : Option FieldType) (hh : List (Nat × Nat × Nat × Nat)) (ws : List Cond) (rm : Room) (mc ms n : Nat) : Prop :=
  (rm.cells = mc ∧ rm.slots = ms ∧ rm.frames + 1 ≤ R.frames ∧ 8 + (maxL + 11) + rm.locals ≤ R.locals ∧ (∀ w ∈ ws, ∀ (a' : Array Value) (U : State), s.WarmedH U.vm → w.before a' U = true) ∧ Cond.codeWith y bytes maxL ret hh ∈ ws) ∧
  (Cond.codeWith y bytes maxL ret hh).before args s = true ∧ (Cond.initialized y.cls).before args s = true ∧ (y.cls ≠ "java/lang/invoke/MethodHandle" ∧ y.cls ≠ "java/lang/invoke/VarHandle") ∧
  (∀ sig, parseMethodDescriptor y.desc = some sig → n = sig.parameters.length) ∧ (Cond.methodLink own index y).before args s = true ∧ (Cond.instanceMethod y).before args s = true ∧ (Cond.selects C y y).before args s = true
theorem vx_cwVW {own C : String} {index maxL mc ms : Nat} {y : MethodName} {bytes : ByteArray} {ret : Option FieldType} {hh : List (Nat × Nat × Nat × Nat)} {Ts ws ws' : List Cond} {rm : Room} (n : Nat) (ht : ∀ w ∈ Ts, w.before args s = true) (hT : GoodIn Ts (wsV own index C y ws)) (hw : ws = Cond.codeWith y bytes maxL ret hh :: ws') (hrc : rm.cells = mc) (hrs : rm.slots = ms)
    (hd : y.cls = C ∧ y.cls ≠ "java/lang/invoke/MethodHandle" ∧ y.cls ≠ "java/lang/invoke/VarHandle" ∧ (parseMethodDescriptor y.desc).map (fun d => d.parameters.length) = some n) (hR : rm.frames + 1 ≤ R.frames ∧ 8 + (maxL + 11) + rm.locals ≤ R.locals) :
    vx_CVW R s args own C index y bytes maxL ret hh ws rm mc ms n := by
  obtain ⟨hC, hd⟩ := hd
  subst hC
  have ok : ∀ w ∈ wsV own index y.cls y ws, w.before args s = true := fun w h => ht w (hT w h).1
  have hG : GoodIn Ts ws := fun w h => hT w (by unfold wsV; exact List.mem_append_right _ h)
  have hc : Cond.codeWith y bytes maxL ret hh ∈ ws := by rw [hw]; exact List.mem_cons_self
  refine ⟨⟨hrc, hrs, hR.1, hR.2, pay_in ht hG, hc⟩, ht _ (hG _ hc).1, ok _ (by simp [wsV]), ⟨hd.1, hd.2.1⟩, fun sig h => ?_, ok _ (by simp [wsV]), ok _ (by simp [wsV]), ok _ (by simp [wsV])⟩
  have h2 := hd.2.2
  rw [h] at h2
  exact (Option.some.inj h2).symm
theorem vx_runVW {y : MethodName} {bytes cc : ByteArray} {maxL nL mc ms n index : Nat} {ret : Option FieldType} {hh : List (Nat × Nat × Nat × Nat)} {ws : List Cond} {rm : Room} {Pc : Array Value → State → Prop} {Qc : Array Value → State → Outcome → State → Prop} {free : Addr → Prop} {Ts : List Cond} {own C : String} {b : Addr} {As rest : List Value} {g : JFrame}
    (S : CallFix p m c cc nL s args Ts own) (hM : Met l y ws rm Pc Qc mc ms free) (cw : vx_CVW R s args own C index y bytes maxL ret hh ws rm mc ms n) (hp : PreV s H C b Pc As)
    (hg : g.method = m) (hn : As.length = n) (hsize : g.locals.size = nL) (hstack : g.stack = As.reverse ++ .ref b :: rest) (hW : 2 * g.monitorRoom + (rest.map fun v => v.category).sum ≤ 8) (hdg : decode cc g.pc = .ok (.invokevirtual index, 3)) (hf : cells + mc ≤ R.cells ∧ slots + ms ≤ R.slots) :
    va_Run p l e R s m args below meth c H locs cells slots mc ms g rest (Qc (Value.ref b :: As).toArray) free := by
  obtain ⟨⟨hrc, hrs, hfr, hlo, hws, hcw⟩, hcode, hini, hy, hlen, hl, hin, hse⟩ := cw
  have hK : Back l R p e below s args y 3 8 (PreOf R mc ms Pc) (PostOf Qc mc ms free) := va_backW (hh := hh) (bytes := bytes) (maxL := maxL) (ret := ret) hM hp.1 hrc hrs hfr hlo hws hcw (fun a' U hW => word_at hW (Or.inl (by first | rfl | simp [Cond.onTables, Cond.keeps, Cond.steady])) hini)
  obtain ⟨hx, hb, hml, ho, -⟩ := S
  obtain ⟨-, ⟨cellB, hcB, hoB, hclB⟩, hPc⟩ := hp
  intro T hT X
  obtain ⟨v, vm₁, ⟨U', l2, c2, s2⟩, hW₁, X', ⟨g', mk, t, L, e1, e2, hq, h1, hL, h2, h3⟩, st⟩ := vx_callVW X hx (C := C) (hh := hh) (bytes := bytes) (maxL := maxL) (ret := ret) ho hl hin hse hcode hy hK (by rw [hT]; exact hcB) hoB hclB hg (hsize.trans hml.symm) (argsL := As) (rest := rest) (fun sig h => hn.trans (hlen sig h)) hstack hW (by rw [hb]; exact hdg)
    (fun vm₁ hW₁ => ⟨hf.1, hf.2, hPc (T.setVm vm₁) hT hW₁⟩)
  dsimp only [Pt.U, Pt.locs, Pt.cells, Pt.slots] at X' e1 e2 h1 h2 h3 st
  subst h1; subst h2; subst h3
  exact ⟨v, (T.setVm vm₁).calling g' mk (Value.ref b :: As).toArray, t, U', L, hT, X', hL, e1, e2, hq, st⟩
section
variable {y : MethodName} {bytes cc : ByteArray} {maxL nL mc ms n index : Nat} {ret : Option FieldType} {ws : List Cond} {rm : Room} {Pc : Array Value → State → Prop} {Qc : Array Value → State → Outcome → State → Prop} {XC : String → State → State → Prop} {free : Addr → Prop} {Ts : List Cond} {own C : String} {b : Addr} {As rest : List Value} {g : JFrame}
theorem vx_runVX {hh : List (Nat × Nat × Nat × Nat)} (S : CallFix p m c cc nL s args Ts own) (hM : vx_Met l y ws rm Pc Qc XC mc ms free) (cw : vx_CVW R s args own C index y bytes maxL ret hh ws rm mc ms n) (hp : PreV s H C b Pc As)
    (hg : g.method = m) (hn : As.length = n) (hsize : g.locals.size = nL) (hstack : g.stack = As.reverse ++ .ref b :: rest) (hW : 2 * g.monitorRoom + (rest.map fun v => v.category).sum ≤ 8) (hdg : decode cc g.pc = .ok (.invokevirtual index, 3)) (hf : cells + mc ≤ R.cells ∧ slots + ms ≤ R.slots) :
    vx_Run p l e R s m args below meth c H locs cells slots mc ms g rest (Qc (Value.ref b :: As).toArray) XC free := by
  obtain ⟨⟨hrc, hrs, hfr, hlo, hws, hcw⟩, hcode, hini, hy, hlen, hl, hin, hse⟩ := cw
  have hK : vx_Back l R p e below s args y 3 8 (PreOf R mc ms Pc) (PostOf Qc mc ms free) (vx_Post XC mc ms free) := vx_backW (hh := hh) (bytes := bytes) (maxL := maxL) (ret := ret) hM hp.1 hrc hrs hfr hlo hws hcw (fun a' U hW => word_at hW (Or.inl (by first | rfl | simp [Cond.onTables, Cond.keeps, Cond.steady])) hini)
  obtain ⟨hx, hb, hml, ho, -⟩ := S
  obtain ⟨-, ⟨cellB, hcB, hoB, hclB⟩, hPc⟩ := hp
  intro T hT X
  rcases vx_callVX X hx (C := C) (hh := hh) (bytes := bytes) (maxL := maxL) (ret := ret) ho hl hin hse hcode hy hK (by rw [hT]; exact hcB) hoB hclB hg (hsize.trans hml.symm) (argsL := As) (rest := rest) (fun sig h => hn.trans (hlen sig h)) hstack hW (by rw [hb]; exact hdg)
    (fun vm₁ hW₁ => ⟨hf.1, hf.2, hPc (T.setVm vm₁) hT hW₁⟩) with ⟨v, vm₁, ⟨U', l2, c2, s2⟩, hW₁, X', ⟨g', mk, t, L, e1, e2, hq, h1, hL, h2, h3⟩, st⟩ | ⟨q, vm₁, ⟨U', l2, c2, s2⟩, hW₁, X', ⟨g', mk, t, L, E, ce, e1, e2, hq, hce, hcv, hcl, h1, hL, h2, h3⟩, st⟩
  · dsimp only [Pt.U, Pt.locs, Pt.cells, Pt.slots] at X' e1 e2 h1 h2 h3 st
    subst h1; subst h2; subst h3
    exact Or.inl ⟨v, (T.setVm vm₁).calling g' mk (Value.ref b :: As).toArray, t, U', L, hT, X', hL, e1, e2, hq, st⟩
  · dsimp only [Pt.U, Pt.locs, Pt.cells, Pt.slots] at X' e1 e2 h1 h2 h3 st hcl
    subst h1; subst h2; subst h3
    exact Or.inr ⟨q, (T.setVm vm₁).calling g' mk (Value.ref b :: As).toArray, t, U', L, E, ce, hT, X', hL, e1, e2, hq, hce, hcv, vx_cls hW₁ hcl, st⟩
theorem vx_runSX {hh : List (Nat × Nat × Nat × Nat)} (S : CallFix p m c cc nL s args Ts own) (hM : vx_Met l y ws rm Pc Qc XC mc ms free) (cw : vx_CSW R s args own index y bytes maxL ret hh ws rm mc ms n) (hp : PreS s H Pc As)
    (hg : g.method = m) (hn : As.length = n) (hsize : g.locals.size = nL) (hstack : g.stack = As.reverse ++ rest) (hW : 2 * g.monitorRoom + (rest.map fun v => v.category).sum ≤ 8) (hdg : decode cc g.pc = .ok (.invokestatic index, 3)) (hf : cells + mc ≤ R.cells ∧ slots + ms ≤ R.slots) :
    vx_Run p l e R s m args below meth c H locs cells slots mc ms g rest (Qc As.toArray) XC free := by
  obtain ⟨⟨hrc, hrs, hfr, hlo, hws, hcw⟩, hcode, hini, hy, hlen, hl, hstt⟩ := cw
  have hK : vx_Back l R p e below s args y 3 8 (PreOf R mc ms Pc) (PostOf Qc mc ms free) (vx_Post XC mc ms free) := vx_backW (hh := hh) (bytes := bytes) (maxL := maxL) (ret := ret) hM hp.1 hrc hrs hfr hlo hws hcw (fun a' U hW => word_at hW (Or.inl (by first | rfl | simp [Cond.onTables, Cond.keeps, Cond.steady])) hini)
  obtain ⟨hx, hb, hml, ho, -⟩ := S
  intro T hT X
  rcases vx_callSX X hx (hh := hh) (bytes := bytes) (maxL := maxL) (ret := ret) ho hl hstt hini hcode hy hK hg (hsize.trans hml.symm) (argsL := As) (rest := rest) (fun sig h => hn.trans (hlen sig h)) hstack hW (by rw [hb]; exact hdg)
    (fun vm₁ hW₁ => ⟨hf.1, hf.2, hp.2 (T.setVm vm₁) hT hW₁⟩) with ⟨v, vm₁, ⟨U', l2, c2, s2⟩, hW₁, X', ⟨g', mk, t, L, e1, e2, hq, h1, hL, h2, h3⟩, st⟩ | ⟨q, vm₁, ⟨U', l2, c2, s2⟩, hW₁, X', ⟨g', mk, t, L, E, ce, e1, e2, hq, hce, hcv, hcl, h1, hL, h2, h3⟩, st⟩
  · dsimp only [Pt.U, Pt.locs, Pt.cells, Pt.slots] at X' e1 e2 h1 h2 h3 st
    subst h1; subst h2; subst h3
    exact Or.inl ⟨v, (T.setVm vm₁).calling g' mk As.toArray, t, U', L, hT, X', hL, e1, e2, hq, st⟩
  · dsimp only [Pt.U, Pt.locs, Pt.cells, Pt.slots] at X' e1 e2 h1 h2 h3 st hcl
    subst h1; subst h2; subst h3
    exact Or.inr ⟨q, (T.setVm vm₁).calling g' mk As.toArray, t, U', L, E, ce, hT, X', hL, e1, e2, hq, hce, hcv, vx_cls hW₁ hcl, st⟩
end
end VXH
theorem vx_ofWH {l : Launch} {y : MethodName} {ws ws' : List Cond} {rm : Room} {Pc : Array Value → State → Prop} {Qc : Array Value → State → Outcome → State → Prop} {XC : String → State → State → Prop} {mc ms : Nat} {free : Addr → Prop} {cc : ByteArray} {maxL : Nat} {ret : Option FieldType} {hh : List (Nat × Nat × Nat × Nat)}
    (hy : plainName y.cls = true) (hw : ws = Cond.codeWith y cc maxL ret hh :: ws')
    (body : ∀ p e s m args below meth c s₁, BodyLoose p l y (headSpec ws rm) cc maxL ret e s m args below meth c s₁ → c.maxLocals = maxL → Pc args s →
      W p l e (headSpec ws rm).room s m args below meth c s.heap [] 0 0 (vx_MQ below Qc XC args s mc ms free) (entryFrame m args maxL)) : vx_Met l y ws rm Pc Qc XC mc ms free := by
  refine MetFree.of_bodyS (code := cc) (maxLocals := maxL) (ret := ret) hy ?_ ?_
  · intro args s m h hn
    obtain ⟨m9, meth, c, hn9, h1, h2, h3, h4, -, h5, h6, -⟩ := Cond.codeWith_spec (atoms_spec (ws := ws) h _ (by rw [hw]; exact List.mem_cons_self))
    cases hn.symm.trans hn9
    exact ⟨meth, c, h1, h2, h3, h4, h5, h6⟩
  · intro p e s m args below meth c s₁ B hml hP _
    have hh0 : s₁.heap = s.heap := by rw [B.state]; rfl
    obtain ⟨t, a1, o, b1, b2, b3⟩ := body p e s m args below meth c s₁ B hml hP s₁ hh0 (Stand.of_body B)
    exact ⟨t, o, a1, b1, b2, b3⟩
/-! ===== END ===== -/

def RX0 : String := "Boreplan$Job"
def TX0 : u_T := fun k => match k with
  | 0 => ("Boreplan$Job", "number", "I", true)
  | 1 => ("Boreplan$Job", "due", "I", true)
  | 2 => ("Boreplan$Job", "operations", "Ljava/util/ArrayList;", true)
  | 3 => ("Boreplan$Job", "isPlaced", "Z", false)
  | _ => ("Boreplan$Job", "timed", "I", false)
def tyX0 : Nat → FieldType := fun k => match k with
  | 0 => .int
  | 1 => .int
  | 2 => .object "java/util/ArrayList"
  | 3 => .boolean
  | _ => .int
abbrev wsX00 : List Cond := u_ws RX0 TX0 5
theorem nmX0 : ∀ a, a < 5 → ∀ b, b < 5 → a ≠ b → (TX0 a).2.1 ≠ (TX0 b).2.1 := by decide +kernel
theorem tyX0_ok : ∀ k, k < 5 → parseFieldDescriptor (TX0 k).2.2.1 = some (tyX0 k) := by decide +kernel
abbrev cX0_init : ByteArray := prog_2_method_1_code
def yX0_init : MethodName := ⟨RX0, "<init>", "(II)V"⟩
abbrev cX0_append : ByteArray := prog_2_method_2_code
def yX0_append : MethodName := ⟨RX0, "append", "(LBoreplan$Machine;III)I"⟩
def RX1 : String := "Boreplan$Machine"
def TX1 : u_T := fun k => match k with
  | 0 => ("Boreplan$Machine", "row", "Ljava/util/ArrayList;", true)
  | 1 => ("Boreplan$Machine", "capacity", "I", false)
  | 2 => ("Boreplan$Machine", "mostToolsNeeded", "I", false)
  | 3 => ("Boreplan$Machine", "broken", "Z", false)
  | 4 => ("Boreplan$Machine", "brokenFrom", "I", false)
  | 5 => ("Boreplan$Machine", "brokenTo", "I", false)
  | _ => ("Boreplan$Machine", "timed", "I", false)
def tyX1 : Nat → FieldType := fun k => match k with
  | 0 => .object "java/util/ArrayList"
  | 1 => .int
  | 2 => .int
  | 3 => .boolean
  | 4 => .int
  | 5 => .int
  | _ => .int
abbrev wsX10 : List Cond := u_ws RX1 TX1 7
theorem nmX1 : ∀ a, a < 7 → ∀ b, b < 7 → a ≠ b → (TX1 a).2.1 ≠ (TX1 b).2.1 := by decide +kernel
theorem tyX1_ok : ∀ k, k < 7 → parseFieldDescriptor (TX1 k).2.2.1 = some (tyX1 k) := by decide +kernel
abbrev cX1_init : ByteArray := prog_3_method_1_code
def yX1_init : MethodName := ⟨RX1, "<init>", "()V"⟩
abbrev cX1_insert : ByteArray := prog_3_method_2_code
def yX1_insert : MethodName := ⟨RX1, "insert", "(LBoreplan$Operation;I)V"⟩
abbrev cX1_takeOut : ByteArray := prog_3_method_3_code
def yX1_takeOut : MethodName := ⟨RX1, "takeOut", "(I)V"⟩
abbrev cX1_takeOutAllOf : ByteArray := prog_3_method_4_code
def yX1_takeOutAllOf : MethodName := ⟨RX1, "takeOutAllOf", "(LBoreplan$Job;)V"⟩
abbrev cX1_exchange : ByteArray := prog_3_method_5_code
def yX1_exchange : MethodName := ⟨RX1, "exchange", "(I)V"⟩
abbrev cX1_link : ByteArray := prog_3_method_6_code
def yX1_link : MethodName := ⟨RX1, "link", "()V"⟩
abbrev cX1_isBrokenDuring : ByteArray := prog_3_method_7_code
def yX1_isBrokenDuring : MethodName := ⟨RX1, "isBrokenDuring", "(II)Z"⟩
abbrev cX1_leastStart : ByteArray := prog_3_method_8_code
def yX1_leastStart : MethodName := ⟨RX1, "leastStart", "(II)I"⟩
abbrev cX1_greatestStart : ByteArray := prog_3_method_9_code
def yX1_greatestStart : MethodName := ⟨RX1, "greatestStart", "(II)I"⟩
abbrev cX1_leastLoads : ByteArray := prog_3_method_10_code
def yX1_leastLoads : MethodName := ⟨RX1, "leastLoads", "()I"⟩
abbrev cX1_neededLast : ByteArray := prog_3_method_11_code
def yX1_neededLast : MethodName := ⟨RX1, "neededLast", "(II)I"⟩
def RX2 : String := "Boreplan$Operation"
def TX2 : u_T := fun k => match k with
  | 0 => ("Boreplan$Operation", "job", "LBoreplan$Job;", true)
  | 1 => ("Boreplan$Operation", "number", "I", true)
  | 2 => ("Boreplan$Operation", "machine", "LBoreplan$Machine;", true)
  | 3 => ("Boreplan$Operation", "length", "I", true)
  | 4 => ("Boreplan$Operation", "family", "I", true)
  | 5 => ("Boreplan$Operation", "tools", "I", true)
  | 6 => ("Boreplan$Operation", "aheadInJob", "LBoreplan$Operation;", false)
  | 7 => ("Boreplan$Operation", "behindInJob", "LBoreplan$Operation;", false)
  | 8 => ("Boreplan$Operation", "aheadOnMachine", "LBoreplan$Operation;", false)
  | 9 => ("Boreplan$Operation", "behindOnMachine", "LBoreplan$Operation;", false)
  | 10 => ("Boreplan$Operation", "start", "I", false)
  | 11 => ("Boreplan$Operation", "finish", "I", false)
  | 12 => ("Boreplan$Operation", "startInRounds", "I", false)
  | _ => ("Boreplan$Operation", "latestStart", "I", false)
def tyX2 : Nat → FieldType := fun k => match k with
  | 0 => .object "Boreplan$Job"
  | 1 => .int
  | 2 => .object "Boreplan$Machine"
  | 3 => .int
  | 4 => .int
  | 5 => .int
  | 6 => .object "Boreplan$Operation"
  | 7 => .object "Boreplan$Operation"
  | 8 => .object "Boreplan$Operation"
  | 9 => .object "Boreplan$Operation"
  | 10 => .int
  | 11 => .int
  | 12 => .int
  | _ => .int
abbrev wsX20 : List Cond := u_ws RX2 TX2 14
theorem nmX2 : ∀ a, a < 14 → ∀ b, b < 14 → a ≠ b → (TX2 a).2.1 ≠ (TX2 b).2.1 := by decide +kernel
theorem tyX2_ok : ∀ k, k < 14 → parseFieldDescriptor (TX2 k).2.2.1 = some (tyX2 k) := by decide +kernel
abbrev cX2_init : ByteArray := prog_4_method_1_code
def yX2_init : MethodName := ⟨RX2, "<init>", "(LBoreplan$Job;ILBoreplan$Machine;III)V"⟩
abbrev cX2_code : ByteArray := prog_4_method_2_code
def yX2_code : MethodName := ⟨RX2, "code", "()I"⟩
def RX3 : String := "Boreplan$Setups"
def TX3 : u_T := fun k => match k with
  | _ => ("Boreplan$Setups", "minutes", "[[I", true)
def tyX3 : Nat → FieldType := fun k => match k with
  | _ => .array (.array .int)
abbrev wsX30 : List Cond := u_ws RX3 TX3 1
theorem nmX3 : ∀ a, a < 1 → ∀ b, b < 1 → a ≠ b → (TX3 a).2.1 ≠ (TX3 b).2.1 := by decide +kernel
theorem tyX3_ok : ∀ k, k < 1 → parseFieldDescriptor (TX3 k).2.2.1 = some (tyX3 k) := by decide +kernel
abbrev cX3_init : ByteArray := prog_5_method_1_code
def yX3_init : MethodName := ⟨RX3, "<init>", "()V"⟩
abbrev cX3_between : ByteArray := prog_5_method_2_code
def yX3_between : MethodName := ⟨RX3, "between", "(LBoreplan$Operation;LBoreplan$Operation;)I"⟩
abbrev cX3_sumOf : ByteArray := prog_5_method_3_code
def yX3_sumOf : MethodName := ⟨RX3, "sumOf", "(LBoreplan$Machine;)I"⟩
def RX4 : String := "Boreplan$Shop"
def TX4 : u_T := fun k => match k with
  | 0 => ("Boreplan$Shop", "machines", "Ljava/util/ArrayList;", true)
  | 1 => ("Boreplan$Shop", "jobs", "Ljava/util/ArrayList;", true)
  | 2 => ("Boreplan$Shop", "table", "LBoreplan$Setups;", true)
  | 3 => ("Boreplan$Shop", "order", "Ljava/util/ArrayList;", true)
  | 4 => ("Boreplan$Shop", "path", "Ljava/util/ArrayList;", true)
  | _ => ("Boreplan$Shop", "span", "I", false)
def tyX4 : Nat → FieldType := fun k => match k with
  | 0 => .object "java/util/ArrayList"
  | 1 => .object "java/util/ArrayList"
  | 2 => .object "Boreplan$Setups"
  | 3 => .object "java/util/ArrayList"
  | 4 => .object "java/util/ArrayList"
  | _ => .int
abbrev wsX40 : List Cond := u_ws RX4 TX4 6
theorem nmX4 : ∀ a, a < 6 → ∀ b, b < 6 → a ≠ b → (TX4 a).2.1 ≠ (TX4 b).2.1 := by decide +kernel
theorem tyX4_ok : ∀ k, k < 6 → parseFieldDescriptor (TX4 k).2.2.1 = some (tyX4 k) := by decide +kernel
abbrev cX4_init : ByteArray := prog_6_method_1_code
def yX4_init : MethodName := ⟨RX4, "<init>", "()V"⟩
abbrev cX4_insertAtBestPlace : ByteArray := prog_6_method_2_code
def yX4_insertAtBestPlace : MethodName := ⟨RX4, "insertAtBestPlace", "(LBoreplan$Operation;)V"⟩
abbrev cX4_timeAll : ByteArray := prog_6_method_3_code
def yX4_timeAll : MethodName := ⟨RX4, "timeAll", "()Z"⟩
abbrev cX4_begin : ByteArray := prog_6_method_4_code
def yX4_begin : MethodName := ⟨RX4, "begin", "()I"⟩
abbrev cX4_timeRow : ByteArray := prog_6_method_5_code
def yX4_timeRow : MethodName := ⟨RX4, "timeRow", "(LBoreplan$Machine;)V"⟩
abbrev cX4_timeOne : ByteArray := prog_6_method_6_code
def yX4_timeOne : MethodName := ⟨RX4, "timeOne", "(LBoreplan$Operation;)V"⟩
abbrev cX4_putLaterInRounds : ByteArray := prog_6_method_7_code
def yX4_putLaterInRounds : MethodName := ⟨RX4, "putLaterInRounds", "()V"⟩
abbrev cX4_putRowLater : ByteArray := prog_6_method_8_code
def yX4_putRowLater : MethodName := ⟨RX4, "putRowLater", "(LBoreplan$Machine;)Z"⟩
abbrev cX4_readyInRounds : ByteArray := prog_6_method_9_code
def yX4_readyInRounds : MethodName := ⟨RX4, "readyInRounds", "(LBoreplan$Operation;)I"⟩
abbrev cX4_findLatestStarts : ByteArray := prog_6_method_10_code
def yX4_findLatestStarts : MethodName := ⟨RX4, "findLatestStarts", "()V"⟩
abbrev cX4_latestFinish : ByteArray := prog_6_method_11_code
def yX4_latestFinish : MethodName := ⟨RX4, "latestFinish", "(LBoreplan$Operation;)I"⟩
abbrev cX4_findPath : ByteArray := prog_6_method_12_code
def yX4_findPath : MethodName := ⟨RX4, "findPath", "()V"⟩
abbrev cX4_lastOfPath : ByteArray := prog_6_method_13_code
def yX4_lastOfPath : MethodName := ⟨RX4, "lastOfPath", "()LBoreplan$Operation;"⟩
abbrev cX4_aheadOnPath : ByteArray := prog_6_method_14_code
def yX4_aheadOnPath : MethodName := ⟨RX4, "aheadOnPath", "(LBoreplan$Operation;)LBoreplan$Operation;"⟩
def RX5 : String := "Boreplan"
def TX5 : u_T := fun k => match k with
  | _ => ("Boreplan", "shop", "LBoreplan$Shop;", true)
def tyX5 : Nat → FieldType := fun k => match k with
  | _ => .object "Boreplan$Shop"
abbrev wsX50 : List Cond := u_ws RX5 TX5 1
theorem nmX5 : ∀ a, a < 1 → ∀ b, b < 1 → a ≠ b → (TX5 a).2.1 ≠ (TX5 b).2.1 := by decide +kernel
theorem tyX5_ok : ∀ k, k < 1 → parseFieldDescriptor (TX5 k).2.2.1 = some (tyX5 k) := by decide +kernel
abbrev cX5_init : ByteArray := prog_1_method_1_code
def yX5_init : MethodName := ⟨RX5, "<init>", "()V"⟩
abbrev cX5_addMachine : ByteArray := prog_1_method_2_code
def yX5_addMachine : MethodName := ⟨RX5, "addMachine", "()I"⟩
abbrev cX5_setMagazine : ByteArray := prog_1_method_3_code
def yX5_setMagazine : MethodName := ⟨RX5, "setMagazine", "(II)I"⟩
abbrev cX5_breakdown : ByteArray := prog_1_method_4_code
def yX5_breakdown : MethodName := ⟨RX5, "breakdown", "(III)I"⟩
abbrev cX5_repair : ByteArray := prog_1_method_5_code
def yX5_repair : MethodName := ⟨RX5, "repair", "(I)Z"⟩
abbrev cX5_addJob : ByteArray := prog_1_method_6_code
def yX5_addJob : MethodName := ⟨RX5, "addJob", "(I)I"⟩
abbrev cX5_addOperation : ByteArray := prog_1_method_7_code
def yX5_addOperation : MethodName := ⟨RX5, "addOperation", "(IIIII)I"⟩
abbrev cX5_setSetup : ByteArray := prog_1_method_8_code
def yX5_setSetup : MethodName := ⟨RX5, "setSetup", "(III)I"⟩
abbrev cX5_place : ByteArray := prog_1_method_9_code
def yX5_place : MethodName := ⟨RX5, "place", "(I)I"⟩
abbrev cX5_rush : ByteArray := prog_1_method_10_code
def yX5_rush : MethodName := ⟨RX5, "rush", "(I)I"⟩
abbrev cX5_remove : ByteArray := prog_1_method_11_code
def yX5_remove : MethodName := ⟨RX5, "remove", "(I)I"⟩
abbrev cX5_swap : ByteArray := prog_1_method_12_code
def yX5_swap : MethodName := ⟨RX5, "swap", "(II)I"⟩
abbrev cX5_placed : ByteArray := prog_1_method_13_code
def yX5_placed : MethodName := ⟨RX5, "placed", "(I)I"⟩
abbrev cX5_placedAt : ByteArray := prog_1_method_14_code
def yX5_placedAt : MethodName := ⟨RX5, "placedAt", "(II)I"⟩
abbrev cX5_startOf : ByteArray := prog_1_method_15_code
def yX5_startOf : MethodName := ⟨RX5, "startOf", "(II)I"⟩
abbrev cX5_startByRounds : ByteArray := prog_1_method_16_code
def yX5_startByRounds : MethodName := ⟨RX5, "startByRounds", "(II)I"⟩
abbrev cX5_lateness : ByteArray := prog_1_method_17_code
def yX5_lateness : MethodName := ⟨RX5, "lateness", "(I)I"⟩
abbrev cX5_span : ByteArray := prog_1_method_18_code
def yX5_span : MethodName := ⟨RX5, "span", "()I"⟩
abbrev cX5_slack : ByteArray := prog_1_method_19_code
def yX5_slack : MethodName := ⟨RX5, "slack", "(II)I"⟩
abbrev cX5_criticals : ByteArray := prog_1_method_20_code
def yX5_criticals : MethodName := ⟨RX5, "criticals", "()I"⟩
abbrev cX5_criticalAt : ByteArray := prog_1_method_21_code
def yX5_criticalAt : MethodName := ⟨RX5, "criticalAt", "(I)I"⟩
abbrev cX5_setups : ByteArray := prog_1_method_22_code
def yX5_setups : MethodName := ⟨RX5, "setups", "(I)I"⟩
abbrev cX5_loads : ByteArray := prog_1_method_23_code
def yX5_loads : MethodName := ⟨RX5, "loads", "(I)I"⟩
abbrev cX5_knownMachine : ByteArray := prog_1_method_24_code
def yX5_knownMachine : MethodName := ⟨RX5, "knownMachine", "(I)LBoreplan$Machine;"⟩
abbrev cX5_knownJob : ByteArray := prog_1_method_25_code
def yX5_knownJob : MethodName := ⟨RX5, "knownJob", "(I)LBoreplan$Job;"⟩
abbrev cX5_placedJob : ByteArray := prog_1_method_26_code
def yX5_placedJob : MethodName := ⟨RX5, "placedJob", "(I)LBoreplan$Job;"⟩
abbrev cX5_waitingJob : ByteArray := prog_1_method_27_code
def yX5_waitingJob : MethodName := ⟨RX5, "waitingJob", "(I)LBoreplan$Job;"⟩
abbrev cX5_placedOperation : ByteArray := prog_1_method_28_code
def yX5_placedOperation : MethodName := ⟨RX5, "placedOperation", "(II)LBoreplan$Operation;"⟩
def RX6 : String := "BoreplanModel"
def TX6 : u_T := fun k => match k with
  | 0 => ("BoreplanModel", "thrown", "I", false)
  | 1 => ("BoreplanModel", "machineMany", "I", false)
  | 2 => ("BoreplanModel", "capacities", "[I", true)
  | 3 => ("BoreplanModel", "breaks", "[I", true)
  | 4 => ("BoreplanModel", "mends", "[I", true)
  | 5 => ("BoreplanModel", "rowMany", "[I", true)
  | 6 => ("BoreplanModel", "row", "[I", true)
  | 7 => ("BoreplanModel", "jobMany", "I", false)
  | 8 => ("BoreplanModel", "dues", "[I", true)
  | 9 => ("BoreplanModel", "partMany", "[I", true)
  | 10 => ("BoreplanModel", "isPlaced", "[Z", true)
  | 11 => ("BoreplanModel", "machines", "[I", true)
  | 12 => ("BoreplanModel", "lengths", "[I", true)
  | 13 => ("BoreplanModel", "families", "[I", true)
  | 14 => ("BoreplanModel", "tools", "[I", true)
  | 15 => ("BoreplanModel", "setups", "[I", true)
  | 16 => ("BoreplanModel", "isIn", "[Z", true)
  | 17 => ("BoreplanModel", "ahead", "[I", true)
  | 18 => ("BoreplanModel", "behind", "[I", true)
  | 19 => ("BoreplanModel", "starts", "[I", true)
  | 20 => ("BoreplanModel", "latest", "[I", true)
  | 21 => ("BoreplanModel", "pathMany", "I", false)
  | 22 => ("BoreplanModel", "path", "[I", true)
  | 23 => ("BoreplanModel", "costs", "[I", true)
  | _ => ("BoreplanModel", "next", "[I", true)
def tyX6 : Nat → FieldType := fun k => match k with
  | 0 => .int
  | 1 => .int
  | 2 => .array .int
  | 3 => .array .int
  | 4 => .array .int
  | 5 => .array .int
  | 6 => .array .int
  | 7 => .int
  | 8 => .array .int
  | 9 => .array .int
  | 10 => .array .boolean
  | 11 => .array .int
  | 12 => .array .int
  | 13 => .array .int
  | 14 => .array .int
  | 15 => .array .int
  | 16 => .array .boolean
  | 17 => .array .int
  | 18 => .array .int
  | 19 => .array .int
  | 20 => .array .int
  | 21 => .int
  | 22 => .array .int
  | 23 => .array .int
  | _ => .array .int
abbrev wsX60 : List Cond := u_ws RX6 TX6 25
theorem nmX6 : ∀ a, a < 25 → ∀ b, b < 25 → a ≠ b → (TX6 a).2.1 ≠ (TX6 b).2.1 := by decide +kernel
theorem tyX6_ok : ∀ k, k < 25 → parseFieldDescriptor (TX6 k).2.2.1 = some (tyX6 k) := by decide +kernel
abbrev cX6_init : ByteArray := prog_8_method_1_code
def yX6_init : MethodName := ⟨RX6, "<init>", "()V"⟩
abbrev cX6_thrown : ByteArray := prog_8_method_2_code
def yX6_thrown : MethodName := ⟨RX6, "thrown", "()I"⟩
abbrev cX6_fails : ByteArray := prog_8_method_3_code
def yX6_fails : MethodName := ⟨RX6, "fails", "(I)I"⟩
abbrev cX6_in : ByteArray := prog_8_method_4_code
def yX6_in : MethodName := ⟨RX6, "in", "(III)Z"⟩
abbrev cX6_isMachine : ByteArray := prog_8_method_5_code
def yX6_isMachine : MethodName := ⟨RX6, "isMachine", "(I)Z"⟩
abbrev cX6_isJob : ByteArray := prog_8_method_6_code
def yX6_isJob : MethodName := ⟨RX6, "isJob", "(I)Z"⟩
abbrev cX6_setup : ByteArray := prog_8_method_7_code
def yX6_setup : MethodName := ⟨RX6, "setup", "(II)I"⟩
abbrev cX6_lays : ByteArray := prog_8_method_8_code
def yX6_lays : MethodName := ⟨RX6, "lays", "()V"⟩
abbrev cX6_finish : ByteArray := prog_8_method_9_code
def yX6_finish : MethodName := ⟨RX6, "finish", "(I)I"⟩
abbrev cX6_beside : ByteArray := prog_8_method_10_code
def yX6_beside : MethodName := ⟨RX6, "beside", "(II)I"⟩
abbrev cX6_waits : ByteArray := prog_8_method_11_code
def yX6_waits : MethodName := ⟨RX6, "waits", "(I)I"⟩
abbrev cX6_works : ByteArray := prog_8_method_12_code
def yX6_works : MethodName := ⟨RX6, "works", "()Z"⟩
abbrev cX6_spanNow : ByteArray := prog_8_method_13_code
def yX6_spanNow : MethodName := ⟨RX6, "spanNow", "()I"⟩
abbrev cX6_spanOf : ByteArray := prog_8_method_14_code
def yX6_spanOf : MethodName := ⟨RX6, "spanOf", "()I"⟩
abbrev cX6_lasts : ByteArray := prog_8_method_15_code
def yX6_lasts : MethodName := ⟨RX6, "lasts", "(II)I"⟩
abbrev cX6_worksBack : ByteArray := prog_8_method_16_code
def yX6_worksBack : MethodName := ⟨RX6, "worksBack", "()V"⟩
abbrev cX6_addMachine : ByteArray := prog_8_method_17_code
def yX6_addMachine : MethodName := ⟨RX6, "addMachine", "()I"⟩
abbrev cX6_count : ByteArray := prog_8_method_18_code
def yX6_count : MethodName := ⟨RX6, "count", "(I)I"⟩
abbrev cX6_setMagazine : ByteArray := prog_8_method_19_code
def yX6_setMagazine : MethodName := ⟨RX6, "setMagazine", "(II)I"⟩
abbrev cX6_breakdown : ByteArray := prog_8_method_20_code
def yX6_breakdown : MethodName := ⟨RX6, "breakdown", "(III)I"⟩
abbrev cX6_repair : ByteArray := prog_8_method_21_code
def yX6_repair : MethodName := ⟨RX6, "repair", "(I)Z"⟩
abbrev cX6_addJob : ByteArray := prog_8_method_22_code
def yX6_addJob : MethodName := ⟨RX6, "addJob", "(I)I"⟩
abbrev cX6_addOperation : ByteArray := prog_8_method_23_code
def yX6_addOperation : MethodName := ⟨RX6, "addOperation", "(IIIII)I"⟩
abbrev cX6_isFamily : ByteArray := prog_8_method_24_code
def yX6_isFamily : MethodName := ⟨RX6, "isFamily", "(I)Z"⟩
abbrev cX6_setSetup : ByteArray := prog_8_method_25_code
def yX6_setSetup : MethodName := ⟨RX6, "setSetup", "(III)I"⟩
abbrev cX6_puts : ByteArray := prog_8_method_26_code
def yX6_puts : MethodName := ⟨RX6, "puts", "(II)V"⟩
abbrev cX6_takes : ByteArray := prog_8_method_27_code
def yX6_takes : MethodName := ⟨RX6, "takes", "(I)V"⟩
abbrev cX6_bars : ByteArray := prog_8_method_28_code
def yX6_bars : MethodName := ⟨RX6, "bars", "(I)I"⟩
abbrev cX6_place : ByteArray := prog_8_method_29_code
def yX6_place : MethodName := ⟨RX6, "place", "(I)I"⟩
abbrev cX6_rushes : ByteArray := prog_8_method_30_code
def yX6_rushes : MethodName := ⟨RX6, "rushes", "(I)V"⟩
abbrev cX6_rush : ByteArray := prog_8_method_31_code
def yX6_rush : MethodName := ⟨RX6, "rush", "(I)I"⟩
abbrev cX6_remove : ByteArray := prog_8_method_32_code
def yX6_remove : MethodName := ⟨RX6, "remove", "(I)I"⟩
abbrev cX6_exchanges : ByteArray := prog_8_method_33_code
def yX6_exchanges : MethodName := ⟨RX6, "exchanges", "(II)V"⟩
abbrev cX6_swap : ByteArray := prog_8_method_34_code
def yX6_swap : MethodName := ⟨RX6, "swap", "(II)I"⟩
abbrev cX6_placed : ByteArray := prog_8_method_35_code
def yX6_placed : MethodName := ⟨RX6, "placed", "(I)I"⟩
abbrev cX6_code : ByteArray := prog_8_method_36_code
def yX6_code : MethodName := ⟨RX6, "code", "(I)I"⟩
abbrev cX6_placedAt : ByteArray := prog_8_method_37_code
def yX6_placedAt : MethodName := ⟨RX6, "placedAt", "(II)I"⟩
abbrev cX6_isAsked : ByteArray := prog_8_method_38_code
def yX6_isAsked : MethodName := ⟨RX6, "isAsked", "(II)Z"⟩
abbrev cX6_startNow : ByteArray := prog_8_method_39_code
def yX6_startNow : MethodName := ⟨RX6, "startNow", "(II)I"⟩
abbrev cX6_startOf : ByteArray := prog_8_method_40_code
def yX6_startOf : MethodName := ⟨RX6, "startOf", "(II)I"⟩
abbrev cX6_startByRounds : ByteArray := prog_8_method_41_code
def yX6_startByRounds : MethodName := ⟨RX6, "startByRounds", "(II)I"⟩
abbrev cX6_lateness : ByteArray := prog_8_method_42_code
def yX6_lateness : MethodName := ⟨RX6, "lateness", "(I)I"⟩
abbrev cX6_span : ByteArray := prog_8_method_43_code
def yX6_span : MethodName := ⟨RX6, "span", "()I"⟩
abbrev cX6_slack : ByteArray := prog_8_method_44_code
def yX6_slack : MethodName := ⟨RX6, "slack", "(II)I"⟩
abbrev cX6_walks : ByteArray := prog_8_method_45_code
def yX6_walks : MethodName := ⟨RX6, "walks", "()V"⟩
abbrev cX6_criticals : ByteArray := prog_8_method_46_code
def yX6_criticals : MethodName := ⟨RX6, "criticals", "()I"⟩
abbrev cX6_criticalAt : ByteArray := prog_8_method_47_code
def yX6_criticalAt : MethodName := ⟨RX6, "criticalAt", "(I)I"⟩
abbrev cX6_setups : ByteArray := prog_8_method_48_code
def yX6_setups : MethodName := ⟨RX6, "setups", "(I)I"⟩
abbrev cX6_needs : ByteArray := prog_8_method_49_code
def yX6_needs : MethodName := ⟨RX6, "needs", "(II)V"⟩
abbrev cX6_loads : ByteArray := prog_8_method_50_code
def yX6_loads : MethodName := ⟨RX6, "loads", "(I)I"⟩
def RJ6 : String := "java/lang/Integer"
def TJ6 : u_T := fun k => match k with
  | _ => ("", "", "", false)
def tyJ6 : Nat → FieldType := fun k => match k with
  | _ => .int
theorem nmJ6 : ∀ a, a < 0 → ∀ b, b < 0 → a ≠ b → (TJ6 a).2.1 ≠ (TJ6 b).2.1 := by decide +kernel
theorem tyJ6_ok : ∀ k, k < 0 → parseFieldDescriptor (TJ6 k).2.2.1 = some (tyJ6 k) := by decide +kernel
abbrev cJ6_getChars_ba4f3 : ByteArray := prog_19_method_12_code
def yJ6_getChars_ba4f3 : MethodName := ⟨RJ6, "getChars", "(II[B)I"⟩
abbrev cJ6_stringSize_0f7a4 : ByteArray := prog_19_method_13_code
def yJ6_stringSize_0f7a4 : MethodName := ⟨RJ6, "stringSize", "(I)I"⟩
abbrev cJ6_bitCount_0f7a4 : ByteArray := prog_19_method_49_code
def yJ6_bitCount_0f7a4 : MethodName := ⟨RJ6, "bitCount", "(I)I"⟩
def RJ9 : String := "java/lang/Math"
def TJ9 : u_T := fun k => match k with
  | _ => ("", "", "", false)
def tyJ9 : Nat → FieldType := fun k => match k with
  | _ => .int
theorem nmJ9 : ∀ a, a < 0 → ∀ b, b < 0 → a ≠ b → (TJ9 a).2.1 ≠ (TJ9 b).2.1 := by decide +kernel
theorem tyJ9_ok : ∀ k, k < 0 → parseFieldDescriptor (TJ9 k).2.2.1 = some (tyJ9 k) := by decide +kernel
abbrev cJ9_max_7cf53 : ByteArray := prog_21_method_65_code
def yJ9_max_7cf53 : MethodName := ⟨RJ9, "max", "(II)I"⟩
abbrev cJ9_min_7cf53 : ByteArray := prog_21_method_69_code
def yJ9_min_7cf53 : MethodName := ⟨RJ9, "min", "(II)I"⟩
def RJxa1e45 : String := "java/util/AbstractCollection"
def TJxa1e45 : u_T := fun k => match k with
  | _ => ("", "", "", false)
def tyJxa1e45 : Nat → FieldType := fun k => match k with
  | _ => .int
theorem nmJxa1e45 : ∀ a, a < 0 → ∀ b, b < 0 → a ≠ b → (TJxa1e45 a).2.1 ≠ (TJxa1e45 b).2.1 := by decide +kernel
theorem tyJxa1e45_ok : ∀ k, k < 0 → parseFieldDescriptor (TJxa1e45 k).2.2.1 = some (tyJxa1e45 k) := by decide +kernel
abbrev cJxa1e45_init_da8c8 : ByteArray := prog_32_method_1_code
def yJxa1e45_init_da8c8 : MethodName := ⟨RJxa1e45, "<init>", "()V"⟩
def RJxc12de : String := "java/util/AbstractList"
def TJxc12de : u_T := fun k => match k with
  | _ => ("", "", "", false)
def tyJxc12de : Nat → FieldType := fun k => match k with
  | _ => .int
theorem nmJxc12de : ∀ a, a < 0 → ∀ b, b < 0 → a ≠ b → (TJxc12de a).2.1 ≠ (TJxc12de b).2.1 := by decide +kernel
theorem tyJxc12de_ok : ∀ k, k < 0 → parseFieldDescriptor (TJxc12de k).2.2.1 = some (tyJxc12de k) := by decide +kernel
abbrev cJxc12de_init_da8c8 : ByteArray := prog_33_method_1_code
def yJxc12de_init_da8c8 : MethodName := ⟨RJxc12de, "<init>", "()V"⟩
def RJx4a65c : String := "java/util/ArrayList"
def TJx4a65c : u_T := fun k => match k with
  | 0 => ("java/util/AbstractList", "modCount", "I", false)
  | 1 => ("java/util/ArrayList", "elementData", "[Ljava/lang/Object;", false)
  | _ => ("java/util/ArrayList", "size", "I", false)
def tyJx4a65c : Nat → FieldType := fun k => match k with
  | 0 => .int
  | 1 => .array (.object "java/lang/Object")
  | _ => .int
abbrev wsJx4a65c0 : List Cond := u_ws RJx4a65c TJx4a65c 3
theorem nmJx4a65c : ∀ a, a < 3 → ∀ b, b < 3 → a ≠ b → (TJx4a65c a).2.1 ≠ (TJx4a65c b).2.1 := by decide +kernel
theorem tyJx4a65c_ok : ∀ k, k < 3 → parseFieldDescriptor (TJx4a65c k).2.2.1 = some (tyJx4a65c k) := by decide +kernel
abbrev cJx4a65c_init_da8c8 : ByteArray := prog_34_method_2_code
def yJx4a65c_init_da8c8 : MethodName := ⟨RJx4a65c, "<init>", "()V"⟩
abbrev cJx4a65c_grow_92f84 : ByteArray := prog_34_method_6_code
def yJx4a65c_grow_92f84 : MethodName := ⟨RJx4a65c, "grow", "(I)[Ljava/lang/Object;"⟩
abbrev cJx4a65c_grow_d5877 : ByteArray := prog_34_method_7_code
def yJx4a65c_grow_d5877 : MethodName := ⟨RJx4a65c, "grow", "()[Ljava/lang/Object;"⟩
abbrev cJx4a65c_size_8abf5 : ByteArray := prog_34_method_8_code
def yJx4a65c_size_8abf5 : MethodName := ⟨RJx4a65c, "size", "()I"⟩
abbrev cJx4a65c_isEmpty_aae02 : ByteArray := prog_34_method_9_code
def yJx4a65c_isEmpty_aae02 : MethodName := ⟨RJx4a65c, "isEmpty", "()Z"⟩
abbrev cJx4a65c_elementData_915e3 : ByteArray := prog_34_method_18_code
def yJx4a65c_elementData_915e3 : MethodName := ⟨RJx4a65c, "elementData", "(I)Ljava/lang/Object;"⟩
abbrev cJx4a65c_get_915e3 : ByteArray := prog_34_method_20_code
def yJx4a65c_get_915e3 : MethodName := ⟨RJx4a65c, "get", "(I)Ljava/lang/Object;"⟩
abbrev cJx4a65c_set_bcc79 : ByteArray := prog_34_method_23_code
def yJx4a65c_set_bcc79 : MethodName := ⟨RJx4a65c, "set", "(ILjava/lang/Object;)Ljava/lang/Object;"⟩
abbrev cJx4a65c_add_72be8 : ByteArray := prog_34_method_24_code
def yJx4a65c_add_72be8 : MethodName := ⟨RJx4a65c, "add", "(Ljava/lang/Object;[Ljava/lang/Object;I)V"⟩
abbrev cJx4a65c_add_9ea2d : ByteArray := prog_34_method_25_code
def yJx4a65c_add_9ea2d : MethodName := ⟨RJx4a65c, "add", "(Ljava/lang/Object;)Z"⟩
abbrev cJx4a65c_add_7a177 : ByteArray := prog_34_method_26_code
def yJx4a65c_add_7a177 : MethodName := ⟨RJx4a65c, "add", "(ILjava/lang/Object;)V"⟩
abbrev cJx4a65c_remove_915e3 : ByteArray := prog_34_method_29_code
def yJx4a65c_remove_915e3 : MethodName := ⟨RJx4a65c, "remove", "(I)Ljava/lang/Object;"⟩
abbrev cJx4a65c_fastRemove_b59b0 : ByteArray := prog_34_method_39_code
def yJx4a65c_fastRemove_b59b0 : MethodName := ⟨RJx4a65c, "fastRemove", "([Ljava/lang/Object;I)V"⟩
abbrev cJx4a65c_clear_da8c8 : ByteArray := prog_34_method_40_code
def yJx4a65c_clear_da8c8 : MethodName := ⟨RJx4a65c, "clear", "()V"⟩
abbrev cJx4a65c_rangeCheckForAdd_d00df : ByteArray := prog_34_method_45_code
def yJx4a65c_rangeCheckForAdd_d00df : MethodName := ⟨RJx4a65c, "rangeCheckForAdd", "(I)V"⟩
abbrev cJx4a65c_outOfBoundsMsg_b52d3 : ByteArray := prog_34_method_46_code
def yJx4a65c_outOfBoundsMsg_b52d3 : MethodName := ⟨RJx4a65c, "outOfBoundsMsg", "(I)Ljava/lang/String;"⟩
def RJ7 : String := "java/util/Arrays"
def TJ7 : u_T := fun k => match k with
  | _ => ("", "", "", false)
def tyJ7 : Nat → FieldType := fun k => match k with
  | _ => .int
theorem nmJ7 : ∀ a, a < 0 → ∀ b, b < 0 → a ≠ b → (TJ7 a).2.1 ≠ (TJ7 b).2.1 := by decide +kernel
theorem tyJ7_ok : ∀ k, k < 0 → parseFieldDescriptor (TJ7 k).2.2.1 = some (tyJ7 k) := by decide +kernel
abbrev cJ7_copyOf_1904c : ByteArray := prog_35_method_119_code
def yJ7_copyOf_1904c : MethodName := ⟨RJ7, "copyOf", "([Ljava/lang/Object;I)[Ljava/lang/Object;"⟩
abbrev cJ7_copyOf_6403c : ByteArray := prog_35_method_120_code
def yJ7_copyOf_6403c : MethodName := ⟨RJ7, "copyOf", "([Ljava/lang/Object;ILjava/lang/Class;)[Ljava/lang/Object;"⟩
abbrev cJ7_copyOf_9075b : ByteArray := prog_35_method_121_code
def yJ7_copyOf_9075b : MethodName := ⟨RJ7, "copyOf", "([BI)[B"⟩
abbrev cJ7_checkLength_df160 : ByteArray := prog_35_method_131_code
def yJ7_checkLength_df160 : MethodName := ⟨RJ7, "checkLength", "(II)V"⟩
abbrev cJ7_copyOfRange_39247 : ByteArray := prog_35_method_132_code
def yJ7_copyOfRange_39247 : MethodName := ⟨RJ7, "copyOfRange", "([BII)[B"⟩
abbrev cJ7_copyOfRangeByte_39247 : ByteArray := prog_35_method_133_code
def yJ7_copyOfRangeByte_39247 : MethodName := ⟨RJ7, "copyOfRangeByte", "([BII)[B"⟩
def RJ15 : String := "java/util/Objects"
def TJ15 : u_T := fun k => match k with
  | _ => ("", "", "", false)
def tyJ15 : Nat → FieldType := fun k => match k with
  | _ => .int
theorem nmJ15 : ∀ a, a < 0 → ∀ b, b < 0 → a ≠ b → (TJ15 a).2.1 ≠ (TJ15 b).2.1 := by decide +kernel
theorem tyJ15_ok : ∀ k, k < 0 → parseFieldDescriptor (TJ15 k).2.2.1 = some (tyJ15 k) := by decide +kernel
abbrev cJ15_checkIndex_7cf53 : ByteArray := prog_38_method_17_code
def yJ15_checkIndex_7cf53 : MethodName := ⟨RJ15, "checkIndex", "(II)I"⟩
def RJ8 : String := "jdk/internal/util/ArraysSupport"
def TJ8 : u_T := fun k => match k with
  | _ => ("", "", "", false)
def tyJ8 : Nat → FieldType := fun k => match k with
  | _ => .int
theorem nmJ8 : ∀ a, a < 0 → ∀ b, b < 0 → a ≠ b → (TJ8 a).2.1 ≠ (TJ8 b).2.1 := by decide +kernel
theorem tyJ8_ok : ∀ k, k < 0 → parseFieldDescriptor (TJ8 k).2.2.1 = some (tyJ8 k) := by decide +kernel
abbrev cJ8_newLength_cabcc : ByteArray := prog_41_method_27_code
def yJ8_newLength_cabcc : MethodName := ⟨RJ8, "newLength", "(III)I"⟩
abbrev cJ8_hugeLength_7cf53 : ByteArray := prog_41_method_28_code
def yJ8_hugeLength_7cf53 : MethodName := ⟨RJ8, "hugeLength", "(II)I"⟩
def RJ3 : String := "jdk/internal/util/Preconditions"
def TJ3 : u_T := fun k => match k with
  | _ => ("", "", "", false)
def tyJ3 : Nat → FieldType := fun k => match k with
  | _ => .int
theorem nmJ3 : ∀ a, a < 0 → ∀ b, b < 0 → a ≠ b → (TJ3 a).2.1 ≠ (TJ3 b).2.1 := by decide +kernel
theorem tyJ3_ok : ∀ k, k < 0 → parseFieldDescriptor (TJ3 k).2.2.1 = some (tyJ3 k) := by decide +kernel
abbrev cJ3_checkIndex_8e157 : ByteArray := prog_42_method_11_code
def yJ3_checkIndex_8e157 : MethodName := ⟨RJ3, "checkIndex", "(IILjava/util/function/BiFunction;)I"⟩
abbrev cJ3_checkFromToIndex_8c36e : ByteArray := prog_42_method_12_code
def yJ3_checkFromToIndex_8c36e : MethodName := ⟨RJ3, "checkFromToIndex", "(IIILjava/util/function/BiFunction;)I"⟩
abbrev cJ3_checkFromIndexSize_8c36e : ByteArray := prog_42_method_13_code
def yJ3_checkFromIndexSize_8c36e : MethodName := ⟨RJ3, "checkFromIndexSize", "(IIILjava/util/function/BiFunction;)I"⟩
def RL : String := "BoreplanLaw"
abbrev cL_addMachine : ByteArray := method_3_code
def yL_addMachine : MethodName := ⟨RL, "addMachine", "(LBoreplan;[J)I"⟩
abbrev cL_setMagazine : ByteArray := method_4_code
def yL_setMagazine : MethodName := ⟨RL, "setMagazine", "(LBoreplan;II[J)I"⟩
abbrev cL_breakdown : ByteArray := method_5_code
def yL_breakdown : MethodName := ⟨RL, "breakdown", "(LBoreplan;III[J)I"⟩
abbrev cL_repair : ByteArray := method_6_code
def yL_repair : MethodName := ⟨RL, "repair", "(LBoreplan;I[J)I"⟩
abbrev cL_addJob : ByteArray := method_7_code
def yL_addJob : MethodName := ⟨RL, "addJob", "(LBoreplan;I[J)I"⟩
abbrev cL_addOperation : ByteArray := method_8_code
def yL_addOperation : MethodName := ⟨RL, "addOperation", "(LBoreplan;IIIII[J)I"⟩
abbrev cL_setSetup : ByteArray := method_9_code
def yL_setSetup : MethodName := ⟨RL, "setSetup", "(LBoreplan;III[J)I"⟩
abbrev cL_place : ByteArray := method_10_code
def yL_place : MethodName := ⟨RL, "place", "(LBoreplan;I[J)I"⟩
abbrev cL_rush : ByteArray := method_11_code
def yL_rush : MethodName := ⟨RL, "rush", "(LBoreplan;I[J)I"⟩
abbrev cL_remove : ByteArray := method_12_code
def yL_remove : MethodName := ⟨RL, "remove", "(LBoreplan;I[J)I"⟩
abbrev cL_swap : ByteArray := method_13_code
def yL_swap : MethodName := ⟨RL, "swap", "(LBoreplan;II[J)I"⟩
abbrev cL_placed : ByteArray := method_14_code
def yL_placed : MethodName := ⟨RL, "placed", "(LBoreplan;I[J)I"⟩
abbrev cL_placedAt : ByteArray := method_15_code
def yL_placedAt : MethodName := ⟨RL, "placedAt", "(LBoreplan;II[J)I"⟩
abbrev cL_startOf : ByteArray := method_16_code
def yL_startOf : MethodName := ⟨RL, "startOf", "(LBoreplan;II[J)I"⟩
abbrev cL_startByRounds : ByteArray := method_17_code
def yL_startByRounds : MethodName := ⟨RL, "startByRounds", "(LBoreplan;II[J)I"⟩
abbrev cL_lateness : ByteArray := method_18_code
def yL_lateness : MethodName := ⟨RL, "lateness", "(LBoreplan;I[J)I"⟩
abbrev cL_slack : ByteArray := method_19_code
def yL_slack : MethodName := ⟨RL, "slack", "(LBoreplan;II[J)I"⟩
abbrev cL_criticalAt : ByteArray := method_20_code
def yL_criticalAt : MethodName := ⟨RL, "criticalAt", "(LBoreplan;I[J)I"⟩
abbrev cL_setups : ByteArray := method_21_code
def yL_setups : MethodName := ⟨RL, "setups", "(LBoreplan;I[J)I"⟩
abbrev cL_loads : ByteArray := method_22_code
def yL_loads : MethodName := ⟨RL, "loads", "(LBoreplan;I[J)I"⟩
abbrev cL_law : ByteArray := code
def yL_law : MethodName := ⟨RL, "law", "([I)Z"⟩
end
section
theorem dX0_init_0 : decode cX0_init 0 = .ok (.aload_n 0, 1) := by decide +kernel
theorem dX0_init_1 : decode cX0_init 1 = .ok (.invokespecial 1, 3) := by decide +kernel
theorem dX0_init_4 : decode cX0_init 4 = .ok (.aload_n 0, 1) := by decide +kernel
theorem dX0_init_5 : decode cX0_init 5 = .ok (.iload_n 1, 1) := by decide +kernel
theorem dX0_init_6 : decode cX0_init 6 = .ok (.putfield 7, 3) := by decide +kernel
theorem dX0_init_9 : decode cX0_init 9 = .ok (.aload_n 0, 1) := by decide +kernel
theorem dX0_init_10 : decode cX0_init 10 = .ok (.iload_n 2, 1) := by decide +kernel
theorem dX0_init_11 : decode cX0_init 11 = .ok (.putfield 13, 3) := by decide +kernel
theorem dX0_init_14 : decode cX0_init 14 = .ok (.aload_n 0, 1) := by decide +kernel
theorem dX0_init_15 : decode cX0_init 15 = .ok (.new 16, 3) := by decide +kernel
theorem dX0_init_18 : decode cX0_init 18 = .ok (.dup, 1) := by decide +kernel
theorem dX0_init_19 : decode cX0_init 19 = .ok (.invokespecial 18, 3) := by decide +kernel
theorem dX0_init_22 : decode cX0_init 22 = .ok (.putfield 19, 3) := by decide +kernel
theorem dX0_init_25 : decode cX0_init 25 = .ok (.return_, 1) := by decide +kernel
theorem dX0_append_0 : decode cX0_append 0 = .ok (.aload_n 0, 1) := by decide +kernel
theorem dX0_append_1 : decode cX0_append 1 = .ok (.getfield 19, 3) := by decide +kernel
theorem dX0_append_4 : decode cX0_append 4 = .ok (.invokevirtual 23, 3) := by decide +kernel
theorem dX0_append_7 : decode cX0_append 7 = .ok (.istore 5, 2) := by decide +kernel
theorem dX0_append_9 : decode cX0_append 9 = .ok (.new 27, 3) := by decide +kernel
theorem dX0_append_12 : decode cX0_append 12 = .ok (.dup, 1) := by decide +kernel
theorem dX0_append_13 : decode cX0_append 13 = .ok (.aload_n 0, 1) := by decide +kernel
theorem dX0_append_14 : decode cX0_append 14 = .ok (.iload 5, 2) := by decide +kernel
theorem dX0_append_16 : decode cX0_append 16 = .ok (.aload_n 1, 1) := by decide +kernel
theorem dX0_append_17 : decode cX0_append 17 = .ok (.iload_n 2, 1) := by decide +kernel
theorem dX0_append_18 : decode cX0_append 18 = .ok (.iload_n 3, 1) := by decide +kernel
theorem dX0_append_19 : decode cX0_append 19 = .ok (.iload 4, 2) := by decide +kernel
theorem dX0_append_21 : decode cX0_append 21 = .ok (.invokespecial 29, 3) := by decide +kernel
theorem dX0_append_24 : decode cX0_append 24 = .ok (.astore 6, 2) := by decide +kernel
theorem dX0_append_26 : decode cX0_append 26 = .ok (.iload 5, 2) := by decide +kernel
theorem dX0_append_28 : decode cX0_append 28 = .ok (.ifCond .le 33, 3) := by decide +kernel
theorem dX0_append_31 : decode cX0_append 31 = .ok (.aload_n 0, 1) := by decide +kernel
theorem dX0_append_32 : decode cX0_append 32 = .ok (.getfield 19, 3) := by decide +kernel
theorem dX0_append_35 : decode cX0_append 35 = .ok (.iload 5, 2) := by decide +kernel
theorem dX0_append_37 : decode cX0_append 37 = .ok (.iconst 1, 1) := by decide +kernel
theorem dX0_append_38 : decode cX0_append 38 = .ok (.isub, 1) := by decide +kernel
theorem dX0_append_39 : decode cX0_append 39 = .ok (.invokevirtual 32, 3) := by decide +kernel
theorem dX0_append_42 : decode cX0_append 42 = .ok (.checkcast 27, 3) := by decide +kernel
theorem dX0_append_45 : decode cX0_append 45 = .ok (.astore 7, 2) := by decide +kernel
theorem dX0_append_47 : decode cX0_append 47 = .ok (.aload 6, 2) := by decide +kernel
theorem dX0_append_49 : decode cX0_append 49 = .ok (.aload 7, 2) := by decide +kernel
theorem dX0_append_51 : decode cX0_append 51 = .ok (.putfield 36, 3) := by decide +kernel
theorem dX0_append_54 : decode cX0_append 54 = .ok (.aload 7, 2) := by decide +kernel
theorem dX0_append_56 : decode cX0_append 56 = .ok (.aload 6, 2) := by decide +kernel
theorem dX0_append_58 : decode cX0_append 58 = .ok (.putfield 40, 3) := by decide +kernel
theorem dX0_append_61 : decode cX0_append 61 = .ok (.aload_n 0, 1) := by decide +kernel
theorem dX0_append_62 : decode cX0_append 62 = .ok (.getfield 19, 3) := by decide +kernel
theorem dX0_append_65 : decode cX0_append 65 = .ok (.aload 6, 2) := by decide +kernel
theorem dX0_append_67 : decode cX0_append 67 = .ok (.invokevirtual 43, 3) := by decide +kernel
theorem dX0_append_70 : decode cX0_append 70 = .ok (.pop, 1) := by decide +kernel
theorem dX0_append_71 : decode cX0_append 71 = .ok (.aload_n 1, 1) := by decide +kernel
theorem dX0_append_72 : decode cX0_append 72 = .ok (.aload_n 1, 1) := by decide +kernel
theorem dX0_append_73 : decode cX0_append 73 = .ok (.getfield 47, 3) := by decide +kernel
theorem dX0_append_76 : decode cX0_append 76 = .ok (.iload 4, 2) := by decide +kernel
theorem dX0_append_78 : decode cX0_append 78 = .ok (.invokestatic 52, 3) := by decide +kernel
theorem dX0_append_81 : decode cX0_append 81 = .ok (.invokestatic 58, 3) := by decide +kernel
theorem dX0_append_84 : decode cX0_append 84 = .ok (.putfield 47, 3) := by decide +kernel
theorem dX0_append_87 : decode cX0_append 87 = .ok (.iload 5, 2) := by decide +kernel
theorem dX0_append_89 : decode cX0_append 89 = .ok (.ireturn, 1) := by decide +kernel
theorem dX1_init_0 : decode cX1_init 0 = .ok (.aload_n 0, 1) := by decide +kernel
theorem dX1_init_1 : decode cX1_init 1 = .ok (.invokespecial 3, 3) := by decide +kernel
theorem dX1_init_4 : decode cX1_init 4 = .ok (.aload_n 0, 1) := by decide +kernel
theorem dX1_init_5 : decode cX1_init 5 = .ok (.new 9, 3) := by decide +kernel
theorem dX1_init_8 : decode cX1_init 8 = .ok (.dup, 1) := by decide +kernel
theorem dX1_init_9 : decode cX1_init 9 = .ok (.invokespecial 11, 3) := by decide +kernel
theorem dX1_init_12 : decode cX1_init 12 = .ok (.putfield 12, 3) := by decide +kernel
theorem dX1_init_15 : decode cX1_init 15 = .ok (.aload_n 0, 1) := by decide +kernel
theorem dX1_init_16 : decode cX1_init 16 = .ok (.iconst 4, 1) := by decide +kernel
theorem dX1_init_17 : decode cX1_init 17 = .ok (.putfield 18, 3) := by decide +kernel
theorem dX1_init_20 : decode cX1_init 20 = .ok (.return_, 1) := by decide +kernel
theorem dX1_insert_0 : decode cX1_insert 0 = .ok (.aload_n 0, 1) := by decide +kernel
theorem dX1_insert_1 : decode cX1_insert 1 = .ok (.getfield 12, 3) := by decide +kernel
theorem dX1_insert_4 : decode cX1_insert 4 = .ok (.iload_n 2, 1) := by decide +kernel
theorem dX1_insert_5 : decode cX1_insert 5 = .ok (.aload_n 1, 1) := by decide +kernel
theorem dX1_insert_6 : decode cX1_insert 6 = .ok (.invokevirtual 22, 3) := by decide +kernel
theorem dX1_insert_9 : decode cX1_insert 9 = .ok (.aload_n 0, 1) := by decide +kernel
theorem dX1_insert_10 : decode cX1_insert 10 = .ok (.invokevirtual 26, 3) := by decide +kernel
theorem dX1_insert_13 : decode cX1_insert 13 = .ok (.return_, 1) := by decide +kernel
theorem dX1_takeOut_0 : decode cX1_takeOut 0 = .ok (.aload_n 0, 1) := by decide +kernel
theorem dX1_takeOut_1 : decode cX1_takeOut 1 = .ok (.getfield 12, 3) := by decide +kernel
theorem dX1_takeOut_4 : decode cX1_takeOut 4 = .ok (.iload_n 1, 1) := by decide +kernel
theorem dX1_takeOut_5 : decode cX1_takeOut 5 = .ok (.invokevirtual 29, 3) := by decide +kernel
theorem dX1_takeOut_8 : decode cX1_takeOut 8 = .ok (.pop, 1) := by decide +kernel
theorem dX1_takeOut_9 : decode cX1_takeOut 9 = .ok (.aload_n 0, 1) := by decide +kernel
theorem dX1_takeOut_10 : decode cX1_takeOut 10 = .ok (.invokevirtual 26, 3) := by decide +kernel
theorem dX1_takeOut_13 : decode cX1_takeOut 13 = .ok (.return_, 1) := by decide +kernel
theorem dX1_takeOutAllOf_0 : decode cX1_takeOutAllOf 0 = .ok (.aload_n 0, 1) := by decide +kernel
theorem dX1_takeOutAllOf_1 : decode cX1_takeOutAllOf 1 = .ok (.getfield 12, 3) := by decide +kernel
theorem dX1_takeOutAllOf_4 : decode cX1_takeOutAllOf 4 = .ok (.invokevirtual 33, 3) := by decide +kernel
theorem dX1_takeOutAllOf_7 : decode cX1_takeOutAllOf 7 = .ok (.iconst 1, 1) := by decide +kernel
theorem dX1_takeOutAllOf_8 : decode cX1_takeOutAllOf 8 = .ok (.isub, 1) := by decide +kernel
theorem dX1_takeOutAllOf_9 : decode cX1_takeOutAllOf 9 = .ok (.istore_n 2, 1) := by decide +kernel
theorem dX1_takeOutAllOf_10 : decode cX1_takeOutAllOf 10 = .ok (.iload_n 2, 1) := by decide +kernel
theorem dX1_takeOutAllOf_11 : decode cX1_takeOutAllOf 11 = .ok (.ifCond .lt 36, 3) := by decide +kernel
theorem dX1_takeOutAllOf_14 : decode cX1_takeOutAllOf 14 = .ok (.aload_n 0, 1) := by decide +kernel
theorem dX1_takeOutAllOf_15 : decode cX1_takeOutAllOf 15 = .ok (.getfield 12, 3) := by decide +kernel
theorem dX1_takeOutAllOf_18 : decode cX1_takeOutAllOf 18 = .ok (.iload_n 2, 1) := by decide +kernel
theorem dX1_takeOutAllOf_19 : decode cX1_takeOutAllOf 19 = .ok (.invokevirtual 37, 3) := by decide +kernel
theorem dX1_takeOutAllOf_22 : decode cX1_takeOutAllOf 22 = .ok (.checkcast 40, 3) := by decide +kernel
theorem dX1_takeOutAllOf_25 : decode cX1_takeOutAllOf 25 = .ok (.getfield 42, 3) := by decide +kernel
theorem dX1_takeOutAllOf_28 : decode cX1_takeOutAllOf 28 = .ok (.aload_n 1, 1) := by decide +kernel
theorem dX1_takeOutAllOf_29 : decode cX1_takeOutAllOf 29 = .ok (.if_acmp .ne 12, 3) := by decide +kernel
theorem dX1_takeOutAllOf_32 : decode cX1_takeOutAllOf 32 = .ok (.aload_n 0, 1) := by decide +kernel
theorem dX1_takeOutAllOf_33 : decode cX1_takeOutAllOf 33 = .ok (.getfield 12, 3) := by decide +kernel
theorem dX1_takeOutAllOf_36 : decode cX1_takeOutAllOf 36 = .ok (.iload_n 2, 1) := by decide +kernel
theorem dX1_takeOutAllOf_37 : decode cX1_takeOutAllOf 37 = .ok (.invokevirtual 29, 3) := by decide +kernel
theorem dX1_takeOutAllOf_40 : decode cX1_takeOutAllOf 40 = .ok (.pop, 1) := by decide +kernel
theorem dX1_takeOutAllOf_41 : decode cX1_takeOutAllOf 41 = .ok (.iinc 2 (-1), 3) := by decide +kernel
theorem dX1_takeOutAllOf_44 : decode cX1_takeOutAllOf 44 = .ok (.goto (-34), 3) := by decide +kernel
theorem dX1_takeOutAllOf_47 : decode cX1_takeOutAllOf 47 = .ok (.aload_n 0, 1) := by decide +kernel
theorem dX1_takeOutAllOf_48 : decode cX1_takeOutAllOf 48 = .ok (.invokevirtual 26, 3) := by decide +kernel
theorem dX1_takeOutAllOf_51 : decode cX1_takeOutAllOf 51 = .ok (.return_, 1) := by decide +kernel
theorem dX1_exchange_0 : decode cX1_exchange 0 = .ok (.aload_n 0, 1) := by decide +kernel
theorem dX1_exchange_1 : decode cX1_exchange 1 = .ok (.getfield 12, 3) := by decide +kernel
theorem dX1_exchange_4 : decode cX1_exchange 4 = .ok (.iload_n 1, 1) := by decide +kernel
theorem dX1_exchange_5 : decode cX1_exchange 5 = .ok (.invokevirtual 37, 3) := by decide +kernel
theorem dX1_exchange_8 : decode cX1_exchange 8 = .ok (.checkcast 40, 3) := by decide +kernel
theorem dX1_exchange_11 : decode cX1_exchange 11 = .ok (.astore_n 2, 1) := by decide +kernel
theorem dX1_exchange_12 : decode cX1_exchange 12 = .ok (.aload_n 0, 1) := by decide +kernel
theorem dX1_exchange_13 : decode cX1_exchange 13 = .ok (.getfield 12, 3) := by decide +kernel
theorem dX1_exchange_16 : decode cX1_exchange 16 = .ok (.iload_n 1, 1) := by decide +kernel
theorem dX1_exchange_17 : decode cX1_exchange 17 = .ok (.aload_n 0, 1) := by decide +kernel
theorem dX1_exchange_18 : decode cX1_exchange 18 = .ok (.getfield 12, 3) := by decide +kernel
theorem dX1_exchange_21 : decode cX1_exchange 21 = .ok (.iload_n 1, 1) := by decide +kernel
theorem dX1_exchange_22 : decode cX1_exchange 22 = .ok (.iconst 1, 1) := by decide +kernel
theorem dX1_exchange_23 : decode cX1_exchange 23 = .ok (.iadd, 1) := by decide +kernel
theorem dX1_exchange_24 : decode cX1_exchange 24 = .ok (.invokevirtual 37, 3) := by decide +kernel
theorem dX1_exchange_27 : decode cX1_exchange 27 = .ok (.checkcast 40, 3) := by decide +kernel
theorem dX1_exchange_30 : decode cX1_exchange 30 = .ok (.invokevirtual 46, 3) := by decide +kernel
theorem dX1_exchange_33 : decode cX1_exchange 33 = .ok (.pop, 1) := by decide +kernel
theorem dX1_exchange_34 : decode cX1_exchange 34 = .ok (.aload_n 0, 1) := by decide +kernel
theorem dX1_exchange_35 : decode cX1_exchange 35 = .ok (.getfield 12, 3) := by decide +kernel
theorem dX1_exchange_38 : decode cX1_exchange 38 = .ok (.iload_n 1, 1) := by decide +kernel
theorem dX1_exchange_39 : decode cX1_exchange 39 = .ok (.iconst 1, 1) := by decide +kernel
theorem dX1_exchange_40 : decode cX1_exchange 40 = .ok (.iadd, 1) := by decide +kernel
theorem dX1_exchange_41 : decode cX1_exchange 41 = .ok (.aload_n 2, 1) := by decide +kernel
theorem dX1_exchange_42 : decode cX1_exchange 42 = .ok (.invokevirtual 46, 3) := by decide +kernel
theorem dX1_exchange_45 : decode cX1_exchange 45 = .ok (.pop, 1) := by decide +kernel
theorem dX1_exchange_46 : decode cX1_exchange 46 = .ok (.aload_n 0, 1) := by decide +kernel
theorem dX1_exchange_47 : decode cX1_exchange 47 = .ok (.invokevirtual 26, 3) := by decide +kernel
theorem dX1_exchange_50 : decode cX1_exchange 50 = .ok (.return_, 1) := by decide +kernel
theorem dX1_link_0 : decode cX1_link 0 = .ok (.aconst_null, 1) := by decide +kernel
theorem dX1_link_1 : decode cX1_link 1 = .ok (.astore_n 1, 1) := by decide +kernel
theorem dX1_link_2 : decode cX1_link 2 = .ok (.iconst 0, 1) := by decide +kernel
theorem dX1_link_3 : decode cX1_link 3 = .ok (.istore_n 2, 1) := by decide +kernel
theorem dX1_link_4 : decode cX1_link 4 = .ok (.iload_n 2, 1) := by decide +kernel
theorem dX1_link_5 : decode cX1_link 5 = .ok (.aload_n 0, 1) := by decide +kernel
theorem dX1_link_6 : decode cX1_link 6 = .ok (.getfield 12, 3) := by decide +kernel
theorem dX1_link_9 : decode cX1_link 9 = .ok (.invokevirtual 33, 3) := by decide +kernel
theorem dX1_link_12 : decode cX1_link 12 = .ok (.if_icmp .ge 42, 3) := by decide +kernel
theorem dX1_link_15 : decode cX1_link 15 = .ok (.aload_n 0, 1) := by decide +kernel
theorem dX1_link_16 : decode cX1_link 16 = .ok (.getfield 12, 3) := by decide +kernel
theorem dX1_link_19 : decode cX1_link 19 = .ok (.iload_n 2, 1) := by decide +kernel
theorem dX1_link_20 : decode cX1_link 20 = .ok (.invokevirtual 37, 3) := by decide +kernel
theorem dX1_link_23 : decode cX1_link 23 = .ok (.checkcast 40, 3) := by decide +kernel
theorem dX1_link_26 : decode cX1_link 26 = .ok (.astore_n 3, 1) := by decide +kernel
theorem dX1_link_27 : decode cX1_link 27 = .ok (.aload_n 3, 1) := by decide +kernel
theorem dX1_link_28 : decode cX1_link 28 = .ok (.aload_n 1, 1) := by decide +kernel
theorem dX1_link_29 : decode cX1_link 29 = .ok (.putfield 50, 3) := by decide +kernel
theorem dX1_link_32 : decode cX1_link 32 = .ok (.aload_n 3, 1) := by decide +kernel
theorem dX1_link_33 : decode cX1_link 33 = .ok (.aconst_null, 1) := by decide +kernel
theorem dX1_link_34 : decode cX1_link 34 = .ok (.putfield 54, 3) := by decide +kernel
theorem dX1_link_37 : decode cX1_link 37 = .ok (.aload_n 1, 1) := by decide +kernel
theorem dX1_link_38 : decode cX1_link 38 = .ok (.ifnull 8, 3) := by decide +kernel
theorem dX1_link_41 : decode cX1_link 41 = .ok (.aload_n 1, 1) := by decide +kernel
theorem dX1_link_42 : decode cX1_link 42 = .ok (.aload_n 3, 1) := by decide +kernel
theorem dX1_link_43 : decode cX1_link 43 = .ok (.putfield 54, 3) := by decide +kernel
theorem dX1_link_46 : decode cX1_link 46 = .ok (.aload_n 3, 1) := by decide +kernel
theorem dX1_link_47 : decode cX1_link 47 = .ok (.astore_n 1, 1) := by decide +kernel
theorem dX1_link_48 : decode cX1_link 48 = .ok (.iinc 2 1, 3) := by decide +kernel
theorem dX1_link_51 : decode cX1_link 51 = .ok (.goto (-47), 3) := by decide +kernel
theorem dX1_link_54 : decode cX1_link 54 = .ok (.return_, 1) := by decide +kernel
theorem dX1_isBrokenDuring_0 : decode cX1_isBrokenDuring 0 = .ok (.aload_n 0, 1) := by decide +kernel
theorem dX1_isBrokenDuring_1 : decode cX1_isBrokenDuring 1 = .ok (.getfield 57, 3) := by decide +kernel
theorem dX1_isBrokenDuring_4 : decode cX1_isBrokenDuring 4 = .ok (.ifCond .eq 25, 3) := by decide +kernel
theorem dX1_isBrokenDuring_7 : decode cX1_isBrokenDuring 7 = .ok (.iload_n 1, 1) := by decide +kernel
theorem dX1_isBrokenDuring_8 : decode cX1_isBrokenDuring 8 = .ok (.aload_n 0, 1) := by decide +kernel
theorem dX1_isBrokenDuring_9 : decode cX1_isBrokenDuring 9 = .ok (.getfield 61, 3) := by decide +kernel
theorem dX1_isBrokenDuring_12 : decode cX1_isBrokenDuring 12 = .ok (.if_icmp .ge 17, 3) := by decide +kernel
theorem dX1_isBrokenDuring_15 : decode cX1_isBrokenDuring 15 = .ok (.iload_n 1, 1) := by decide +kernel
theorem dX1_isBrokenDuring_16 : decode cX1_isBrokenDuring 16 = .ok (.iload_n 2, 1) := by decide +kernel
theorem dX1_isBrokenDuring_17 : decode cX1_isBrokenDuring 17 = .ok (.iadd, 1) := by decide +kernel
theorem dX1_isBrokenDuring_18 : decode cX1_isBrokenDuring 18 = .ok (.aload_n 0, 1) := by decide +kernel
theorem dX1_isBrokenDuring_19 : decode cX1_isBrokenDuring 19 = .ok (.getfield 64, 3) := by decide +kernel
theorem dX1_isBrokenDuring_22 : decode cX1_isBrokenDuring 22 = .ok (.if_icmp .le 7, 3) := by decide +kernel
theorem dX1_isBrokenDuring_25 : decode cX1_isBrokenDuring 25 = .ok (.iconst 1, 1) := by decide +kernel
theorem dX1_isBrokenDuring_26 : decode cX1_isBrokenDuring 26 = .ok (.goto 4, 3) := by decide +kernel
theorem dX1_isBrokenDuring_29 : decode cX1_isBrokenDuring 29 = .ok (.iconst 0, 1) := by decide +kernel
theorem dX1_isBrokenDuring_30 : decode cX1_isBrokenDuring 30 = .ok (.ireturn, 1) := by decide +kernel
theorem dX1_leastStart_0 : decode cX1_leastStart 0 = .ok (.aload_n 0, 1) := by decide +kernel
theorem dX1_leastStart_1 : decode cX1_leastStart 1 = .ok (.iload_n 1, 1) := by decide +kernel
theorem dX1_leastStart_2 : decode cX1_leastStart 2 = .ok (.iload_n 2, 1) := by decide +kernel
theorem dX1_leastStart_3 : decode cX1_leastStart 3 = .ok (.invokevirtual 67, 3) := by decide +kernel
theorem dX1_leastStart_6 : decode cX1_leastStart 6 = .ok (.ifCond .eq 10, 3) := by decide +kernel
theorem dX1_leastStart_9 : decode cX1_leastStart 9 = .ok (.aload_n 0, 1) := by decide +kernel
theorem dX1_leastStart_10 : decode cX1_leastStart 10 = .ok (.getfield 61, 3) := by decide +kernel
theorem dX1_leastStart_13 : decode cX1_leastStart 13 = .ok (.goto 4, 3) := by decide +kernel
theorem dX1_leastStart_16 : decode cX1_leastStart 16 = .ok (.iload_n 1, 1) := by decide +kernel
theorem dX1_leastStart_17 : decode cX1_leastStart 17 = .ok (.ireturn, 1) := by decide +kernel
theorem dX1_greatestStart_0 : decode cX1_greatestStart 0 = .ok (.aload_n 0, 1) := by decide +kernel
theorem dX1_greatestStart_1 : decode cX1_greatestStart 1 = .ok (.iload_n 1, 1) := by decide +kernel
theorem dX1_greatestStart_2 : decode cX1_greatestStart 2 = .ok (.iload_n 2, 1) := by decide +kernel
theorem dX1_greatestStart_3 : decode cX1_greatestStart 3 = .ok (.invokevirtual 67, 3) := by decide +kernel
theorem dX1_greatestStart_6 : decode cX1_greatestStart 6 = .ok (.ifCond .eq 12, 3) := by decide +kernel
theorem dX1_greatestStart_9 : decode cX1_greatestStart 9 = .ok (.aload_n 0, 1) := by decide +kernel
theorem dX1_greatestStart_10 : decode cX1_greatestStart 10 = .ok (.getfield 64, 3) := by decide +kernel
theorem dX1_greatestStart_13 : decode cX1_greatestStart 13 = .ok (.iload_n 2, 1) := by decide +kernel
theorem dX1_greatestStart_14 : decode cX1_greatestStart 14 = .ok (.isub, 1) := by decide +kernel
theorem dX1_greatestStart_15 : decode cX1_greatestStart 15 = .ok (.goto 4, 3) := by decide +kernel
theorem dX1_greatestStart_18 : decode cX1_greatestStart 18 = .ok (.iload_n 1, 1) := by decide +kernel
theorem dX1_greatestStart_19 : decode cX1_greatestStart 19 = .ok (.ireturn, 1) := by decide +kernel
theorem dX1_leastLoads_0 : decode cX1_leastLoads 0 = .ok (.iconst 0, 1) := by decide +kernel
theorem dX1_leastLoads_1 : decode cX1_leastLoads 1 = .ok (.istore_n 1, 1) := by decide +kernel
theorem dX1_leastLoads_2 : decode cX1_leastLoads 2 = .ok (.iconst 0, 1) := by decide +kernel
theorem dX1_leastLoads_3 : decode cX1_leastLoads 3 = .ok (.istore_n 2, 1) := by decide +kernel
theorem dX1_leastLoads_4 : decode cX1_leastLoads 4 = .ok (.iconst 0, 1) := by decide +kernel
theorem dX1_leastLoads_5 : decode cX1_leastLoads 5 = .ok (.istore_n 3, 1) := by decide +kernel
theorem dX1_leastLoads_6 : decode cX1_leastLoads 6 = .ok (.iload_n 3, 1) := by decide +kernel
theorem dX1_leastLoads_7 : decode cX1_leastLoads 7 = .ok (.aload_n 0, 1) := by decide +kernel
theorem dX1_leastLoads_8 : decode cX1_leastLoads 8 = .ok (.getfield 12, 3) := by decide +kernel
theorem dX1_leastLoads_11 : decode cX1_leastLoads 11 = .ok (.invokevirtual 33, 3) := by decide +kernel
theorem dX1_leastLoads_14 : decode cX1_leastLoads 14 = .ok (.if_icmp .ge 82, 3) := by decide +kernel
theorem dX1_leastLoads_17 : decode cX1_leastLoads 17 = .ok (.aload_n 0, 1) := by decide +kernel
theorem dX1_leastLoads_18 : decode cX1_leastLoads 18 = .ok (.getfield 12, 3) := by decide +kernel
theorem dX1_leastLoads_21 : decode cX1_leastLoads 21 = .ok (.iload_n 3, 1) := by decide +kernel
theorem dX1_leastLoads_22 : decode cX1_leastLoads 22 = .ok (.invokevirtual 37, 3) := by decide +kernel
theorem dX1_leastLoads_25 : decode cX1_leastLoads 25 = .ok (.checkcast 40, 3) := by decide +kernel
theorem dX1_leastLoads_28 : decode cX1_leastLoads 28 = .ok (.getfield 71, 3) := by decide +kernel
theorem dX1_leastLoads_31 : decode cX1_leastLoads 31 = .ok (.istore 4, 2) := by decide +kernel
theorem dX1_leastLoads_33 : decode cX1_leastLoads 33 = .ok (.iload_n 2, 1) := by decide +kernel
theorem dX1_leastLoads_34 : decode cX1_leastLoads 34 = .ok (.iload 4, 2) := by decide +kernel
theorem dX1_leastLoads_36 : decode cX1_leastLoads 36 = .ok (.iload_n 1, 1) := by decide +kernel
theorem dX1_leastLoads_37 : decode cX1_leastLoads 37 = .ok (.iconst (-1), 1) := by decide +kernel
theorem dX1_leastLoads_38 : decode cX1_leastLoads 38 = .ok (.ixor, 1) := by decide +kernel
theorem dX1_leastLoads_39 : decode cX1_leastLoads 39 = .ok (.iand, 1) := by decide +kernel
theorem dX1_leastLoads_40 : decode cX1_leastLoads 40 = .ok (.invokestatic 74, 3) := by decide +kernel
theorem dX1_leastLoads_43 : decode cX1_leastLoads 43 = .ok (.iadd, 1) := by decide +kernel
theorem dX1_leastLoads_44 : decode cX1_leastLoads 44 = .ok (.istore_n 2, 1) := by decide +kernel
theorem dX1_leastLoads_45 : decode cX1_leastLoads 45 = .ok (.iload_n 1, 1) := by decide +kernel
theorem dX1_leastLoads_46 : decode cX1_leastLoads 46 = .ok (.iload 4, 2) := by decide +kernel
theorem dX1_leastLoads_48 : decode cX1_leastLoads 48 = .ok (.ior, 1) := by decide +kernel
theorem dX1_leastLoads_49 : decode cX1_leastLoads 49 = .ok (.istore_n 1, 1) := by decide +kernel
theorem dX1_leastLoads_50 : decode cX1_leastLoads 50 = .ok (.iload_n 1, 1) := by decide +kernel
theorem dX1_leastLoads_51 : decode cX1_leastLoads 51 = .ok (.invokestatic 74, 3) := by decide +kernel
theorem dX1_leastLoads_54 : decode cX1_leastLoads 54 = .ok (.aload_n 0, 1) := by decide +kernel
theorem dX1_leastLoads_55 : decode cX1_leastLoads 55 = .ok (.getfield 18, 3) := by decide +kernel
theorem dX1_leastLoads_58 : decode cX1_leastLoads 58 = .ok (.isub, 1) := by decide +kernel
theorem dX1_leastLoads_59 : decode cX1_leastLoads 59 = .ok (.istore 5, 2) := by decide +kernel
theorem dX1_leastLoads_61 : decode cX1_leastLoads 61 = .ok (.iload 5, 2) := by decide +kernel
theorem dX1_leastLoads_63 : decode cX1_leastLoads 63 = .ok (.ifCond .le 27, 3) := by decide +kernel
theorem dX1_leastLoads_66 : decode cX1_leastLoads 66 = .ok (.iload_n 1, 1) := by decide +kernel
theorem dX1_leastLoads_67 : decode cX1_leastLoads 67 = .ok (.aload_n 0, 1) := by decide +kernel
theorem dX1_leastLoads_68 : decode cX1_leastLoads 68 = .ok (.iload_n 1, 1) := by decide +kernel
theorem dX1_leastLoads_69 : decode cX1_leastLoads 69 = .ok (.iload 4, 2) := by decide +kernel
theorem dX1_leastLoads_71 : decode cX1_leastLoads 71 = .ok (.iconst (-1), 1) := by decide +kernel
theorem dX1_leastLoads_72 : decode cX1_leastLoads 72 = .ok (.ixor, 1) := by decide +kernel
theorem dX1_leastLoads_73 : decode cX1_leastLoads 73 = .ok (.iand, 1) := by decide +kernel
theorem dX1_leastLoads_74 : decode cX1_leastLoads 74 = .ok (.iload_n 3, 1) := by decide +kernel
theorem dX1_leastLoads_75 : decode cX1_leastLoads 75 = .ok (.iconst 1, 1) := by decide +kernel
theorem dX1_leastLoads_76 : decode cX1_leastLoads 76 = .ok (.iadd, 1) := by decide +kernel
theorem dX1_leastLoads_77 : decode cX1_leastLoads 77 = .ok (.invokevirtual 80, 3) := by decide +kernel
theorem dX1_leastLoads_80 : decode cX1_leastLoads 80 = .ok (.iconst (-1), 1) := by decide +kernel
theorem dX1_leastLoads_81 : decode cX1_leastLoads 81 = .ok (.ixor, 1) := by decide +kernel
theorem dX1_leastLoads_82 : decode cX1_leastLoads 82 = .ok (.iand, 1) := by decide +kernel
theorem dX1_leastLoads_83 : decode cX1_leastLoads 83 = .ok (.istore_n 1, 1) := by decide +kernel
theorem dX1_leastLoads_84 : decode cX1_leastLoads 84 = .ok (.iinc 5 (-1), 3) := by decide +kernel
theorem dX1_leastLoads_87 : decode cX1_leastLoads 87 = .ok (.goto (-26), 3) := by decide +kernel
theorem dX1_leastLoads_90 : decode cX1_leastLoads 90 = .ok (.iinc 3 1, 3) := by decide +kernel
theorem dX1_leastLoads_93 : decode cX1_leastLoads 93 = .ok (.goto (-87), 3) := by decide +kernel
theorem dX1_leastLoads_96 : decode cX1_leastLoads 96 = .ok (.iload_n 2, 1) := by decide +kernel
theorem dX1_leastLoads_97 : decode cX1_leastLoads 97 = .ok (.ireturn, 1) := by decide +kernel
theorem dX1_neededLast_0 : decode cX1_neededLast 0 = .ok (.iload_n 1, 1) := by decide +kernel
theorem dX1_neededLast_1 : decode cX1_neededLast 1 = .ok (.istore_n 3, 1) := by decide +kernel
theorem dX1_neededLast_2 : decode cX1_neededLast 2 = .ok (.iload_n 2, 1) := by decide +kernel
theorem dX1_neededLast_3 : decode cX1_neededLast 3 = .ok (.istore 4, 2) := by decide +kernel
theorem dX1_neededLast_5 : decode cX1_neededLast 5 = .ok (.iload 4, 2) := by decide +kernel
theorem dX1_neededLast_7 : decode cX1_neededLast 7 = .ok (.aload_n 0, 1) := by decide +kernel
theorem dX1_neededLast_8 : decode cX1_neededLast 8 = .ok (.getfield 12, 3) := by decide +kernel
theorem dX1_neededLast_11 : decode cX1_neededLast 11 = .ok (.invokevirtual 33, 3) := by decide +kernel
theorem dX1_neededLast_14 : decode cX1_neededLast 14 = .ok (.if_icmp .ge 41, 3) := by decide +kernel
theorem dX1_neededLast_17 : decode cX1_neededLast 17 = .ok (.iload_n 3, 1) := by decide +kernel
theorem dX1_neededLast_18 : decode cX1_neededLast 18 = .ok (.aload_n 0, 1) := by decide +kernel
theorem dX1_neededLast_19 : decode cX1_neededLast 19 = .ok (.getfield 12, 3) := by decide +kernel
theorem dX1_neededLast_22 : decode cX1_neededLast 22 = .ok (.iload 4, 2) := by decide +kernel
theorem dX1_neededLast_24 : decode cX1_neededLast 24 = .ok (.invokevirtual 37, 3) := by decide +kernel
theorem dX1_neededLast_27 : decode cX1_neededLast 27 = .ok (.checkcast 40, 3) := by decide +kernel
theorem dX1_neededLast_30 : decode cX1_neededLast 30 = .ok (.getfield 71, 3) := by decide +kernel
theorem dX1_neededLast_33 : decode cX1_neededLast 33 = .ok (.iconst (-1), 1) := by decide +kernel
theorem dX1_neededLast_34 : decode cX1_neededLast 34 = .ok (.ixor, 1) := by decide +kernel
theorem dX1_neededLast_35 : decode cX1_neededLast 35 = .ok (.iand, 1) := by decide +kernel
theorem dX1_neededLast_36 : decode cX1_neededLast 36 = .ok (.istore 5, 2) := by decide +kernel
theorem dX1_neededLast_38 : decode cX1_neededLast 38 = .ok (.iload 5, 2) := by decide +kernel
theorem dX1_neededLast_40 : decode cX1_neededLast 40 = .ok (.ifCond .ne 6, 3) := by decide +kernel
theorem dX1_neededLast_43 : decode cX1_neededLast 43 = .ok (.goto 12, 3) := by decide +kernel
theorem dX1_neededLast_46 : decode cX1_neededLast 46 = .ok (.iload 5, 2) := by decide +kernel
theorem dX1_neededLast_48 : decode cX1_neededLast 48 = .ok (.istore_n 3, 1) := by decide +kernel
theorem dX1_neededLast_49 : decode cX1_neededLast 49 = .ok (.iinc 4 1, 3) := by decide +kernel
theorem dX1_neededLast_52 : decode cX1_neededLast 52 = .ok (.goto (-47), 3) := by decide +kernel
theorem dX1_neededLast_55 : decode cX1_neededLast 55 = .ok (.iload_n 3, 1) := by decide +kernel
theorem dX1_neededLast_56 : decode cX1_neededLast 56 = .ok (.iload_n 3, 1) := by decide +kernel
theorem dX1_neededLast_57 : decode cX1_neededLast 57 = .ok (.ineg, 1) := by decide +kernel
theorem dX1_neededLast_58 : decode cX1_neededLast 58 = .ok (.iand, 1) := by decide +kernel
theorem dX1_neededLast_59 : decode cX1_neededLast 59 = .ok (.ireturn, 1) := by decide +kernel
theorem dX2_init_0 : decode cX2_init 0 = .ok (.aload_n 0, 1) := by decide +kernel
theorem dX2_init_1 : decode cX2_init 1 = .ok (.invokespecial 1, 3) := by decide +kernel
theorem dX2_init_4 : decode cX2_init 4 = .ok (.aload_n 0, 1) := by decide +kernel
theorem dX2_init_5 : decode cX2_init 5 = .ok (.aload_n 1, 1) := by decide +kernel
theorem dX2_init_6 : decode cX2_init 6 = .ok (.putfield 7, 3) := by decide +kernel
theorem dX2_init_9 : decode cX2_init 9 = .ok (.aload_n 0, 1) := by decide +kernel
theorem dX2_init_10 : decode cX2_init 10 = .ok (.iload_n 2, 1) := by decide +kernel
theorem dX2_init_11 : decode cX2_init 11 = .ok (.putfield 13, 3) := by decide +kernel
theorem dX2_init_14 : decode cX2_init 14 = .ok (.aload_n 0, 1) := by decide +kernel
theorem dX2_init_15 : decode cX2_init 15 = .ok (.aload_n 3, 1) := by decide +kernel
theorem dX2_init_16 : decode cX2_init 16 = .ok (.putfield 17, 3) := by decide +kernel
theorem dX2_init_19 : decode cX2_init 19 = .ok (.aload_n 0, 1) := by decide +kernel
theorem dX2_init_20 : decode cX2_init 20 = .ok (.iload 4, 2) := by decide +kernel
theorem dX2_init_22 : decode cX2_init 22 = .ok (.putfield 21, 3) := by decide +kernel
theorem dX2_init_25 : decode cX2_init 25 = .ok (.aload_n 0, 1) := by decide +kernel
theorem dX2_init_26 : decode cX2_init 26 = .ok (.iload 5, 2) := by decide +kernel
theorem dX2_init_28 : decode cX2_init 28 = .ok (.putfield 24, 3) := by decide +kernel
theorem dX2_init_31 : decode cX2_init 31 = .ok (.aload_n 0, 1) := by decide +kernel
theorem dX2_init_32 : decode cX2_init 32 = .ok (.iload 6, 2) := by decide +kernel
theorem dX2_init_34 : decode cX2_init 34 = .ok (.putfield 27, 3) := by decide +kernel
theorem dX2_init_37 : decode cX2_init 37 = .ok (.return_, 1) := by decide +kernel
theorem dX2_code_0 : decode cX2_code 0 = .ok (.bipush 10, 2) := by decide +kernel
theorem dX2_code_2 : decode cX2_code 2 = .ok (.aload_n 0, 1) := by decide +kernel
theorem dX2_code_3 : decode cX2_code 3 = .ok (.getfield 7, 3) := by decide +kernel
theorem dX2_code_6 : decode cX2_code 6 = .ok (.getfield 30, 3) := by decide +kernel
theorem dX2_code_9 : decode cX2_code 9 = .ok (.imul, 1) := by decide +kernel
theorem dX2_code_10 : decode cX2_code 10 = .ok (.aload_n 0, 1) := by decide +kernel
theorem dX2_code_11 : decode cX2_code 11 = .ok (.getfield 13, 3) := by decide +kernel
theorem dX2_code_14 : decode cX2_code 14 = .ok (.iadd, 1) := by decide +kernel
theorem dX2_code_15 : decode cX2_code 15 = .ok (.ireturn, 1) := by decide +kernel
theorem dX3_init_0 : decode cX3_init 0 = .ok (.aload_n 0, 1) := by decide +kernel
theorem dX3_init_1 : decode cX3_init 1 = .ok (.invokespecial 3, 3) := by decide +kernel
theorem dX3_init_4 : decode cX3_init 4 = .ok (.aload_n 0, 1) := by decide +kernel
theorem dX3_init_5 : decode cX3_init 5 = .ok (.iconst 4, 1) := by decide +kernel
theorem dX3_init_6 : decode cX3_init 6 = .ok (.iconst 4, 1) := by decide +kernel
theorem dX3_init_7 : decode cX3_init 7 = .ok (.multianewarray 9 2, 4) := by decide +kernel
theorem dX3_init_11 : decode cX3_init 11 = .ok (.putfield 11, 3) := by decide +kernel
theorem dX3_init_14 : decode cX3_init 14 = .ok (.return_, 1) := by decide +kernel
theorem dX3_between_0 : decode cX3_between 0 = .ok (.aload_n 1, 1) := by decide +kernel
theorem dX3_between_1 : decode cX3_between 1 = .ok (.ifnonnull 7, 3) := by decide +kernel
theorem dX3_between_4 : decode cX3_between 4 = .ok (.iconst 0, 1) := by decide +kernel
theorem dX3_between_5 : decode cX3_between 5 = .ok (.goto 7, 3) := by decide +kernel
theorem dX3_between_8 : decode cX3_between 8 = .ok (.aload_n 1, 1) := by decide +kernel
theorem dX3_between_9 : decode cX3_between 9 = .ok (.getfield 16, 3) := by decide +kernel
theorem dX3_between_12 : decode cX3_between 12 = .ok (.istore_n 3, 1) := by decide +kernel
theorem dX3_between_13 : decode cX3_between 13 = .ok (.aload_n 0, 1) := by decide +kernel
theorem dX3_between_14 : decode cX3_between 14 = .ok (.getfield 11, 3) := by decide +kernel
theorem dX3_between_17 : decode cX3_between 17 = .ok (.iload_n 3, 1) := by decide +kernel
theorem dX3_between_18 : decode cX3_between 18 = .ok (.aaload, 1) := by decide +kernel
theorem dX3_between_19 : decode cX3_between 19 = .ok (.aload_n 2, 1) := by decide +kernel
theorem dX3_between_20 : decode cX3_between 20 = .ok (.getfield 16, 3) := by decide +kernel
theorem dX3_between_23 : decode cX3_between 23 = .ok (.iaload, 1) := by decide +kernel
theorem dX3_between_24 : decode cX3_between 24 = .ok (.ireturn, 1) := by decide +kernel
theorem dX3_sumOf_0 : decode cX3_sumOf 0 = .ok (.iconst 0, 1) := by decide +kernel
theorem dX3_sumOf_1 : decode cX3_sumOf 1 = .ok (.istore_n 2, 1) := by decide +kernel
theorem dX3_sumOf_2 : decode cX3_sumOf 2 = .ok (.iconst 0, 1) := by decide +kernel
theorem dX3_sumOf_3 : decode cX3_sumOf 3 = .ok (.istore_n 3, 1) := by decide +kernel
theorem dX3_sumOf_4 : decode cX3_sumOf 4 = .ok (.iload_n 3, 1) := by decide +kernel
theorem dX3_sumOf_5 : decode cX3_sumOf 5 = .ok (.aload_n 1, 1) := by decide +kernel
theorem dX3_sumOf_6 : decode cX3_sumOf 6 = .ok (.getfield 22, 3) := by decide +kernel
theorem dX3_sumOf_9 : decode cX3_sumOf 9 = .ok (.invokevirtual 28, 3) := by decide +kernel
theorem dX3_sumOf_12 : decode cX3_sumOf 12 = .ok (.if_icmp .ge 36, 3) := by decide +kernel
theorem dX3_sumOf_15 : decode cX3_sumOf 15 = .ok (.aload_n 1, 1) := by decide +kernel
theorem dX3_sumOf_16 : decode cX3_sumOf 16 = .ok (.getfield 22, 3) := by decide +kernel
theorem dX3_sumOf_19 : decode cX3_sumOf 19 = .ok (.iload_n 3, 1) := by decide +kernel
theorem dX3_sumOf_20 : decode cX3_sumOf 20 = .ok (.invokevirtual 34, 3) := by decide +kernel
theorem dX3_sumOf_23 : decode cX3_sumOf 23 = .ok (.checkcast 17, 3) := by decide +kernel
theorem dX3_sumOf_26 : decode cX3_sumOf 26 = .ok (.astore 4, 2) := by decide +kernel
theorem dX3_sumOf_28 : decode cX3_sumOf 28 = .ok (.iload_n 2, 1) := by decide +kernel
theorem dX3_sumOf_29 : decode cX3_sumOf 29 = .ok (.aload_n 0, 1) := by decide +kernel
theorem dX3_sumOf_30 : decode cX3_sumOf 30 = .ok (.aload 4, 2) := by decide +kernel
theorem dX3_sumOf_32 : decode cX3_sumOf 32 = .ok (.getfield 38, 3) := by decide +kernel
theorem dX3_sumOf_35 : decode cX3_sumOf 35 = .ok (.aload 4, 2) := by decide +kernel
theorem dX3_sumOf_37 : decode cX3_sumOf 37 = .ok (.invokevirtual 42, 3) := by decide +kernel
theorem dX3_sumOf_40 : decode cX3_sumOf 40 = .ok (.iadd, 1) := by decide +kernel
theorem dX3_sumOf_41 : decode cX3_sumOf 41 = .ok (.istore_n 2, 1) := by decide +kernel
theorem dX3_sumOf_42 : decode cX3_sumOf 42 = .ok (.iinc 3 1, 3) := by decide +kernel
theorem dX3_sumOf_45 : decode cX3_sumOf 45 = .ok (.goto (-41), 3) := by decide +kernel
theorem dX3_sumOf_48 : decode cX3_sumOf 48 = .ok (.iload_n 2, 1) := by decide +kernel
theorem dX3_sumOf_49 : decode cX3_sumOf 49 = .ok (.ireturn, 1) := by decide +kernel
theorem dX4_init_0 : decode cX4_init 0 = .ok (.aload_n 0, 1) := by decide +kernel
theorem dX4_init_1 : decode cX4_init 1 = .ok (.invokespecial 3, 3) := by decide +kernel
theorem dX4_init_4 : decode cX4_init 4 = .ok (.aload_n 0, 1) := by decide +kernel
theorem dX4_init_5 : decode cX4_init 5 = .ok (.new 9, 3) := by decide +kernel
theorem dX4_init_8 : decode cX4_init 8 = .ok (.dup, 1) := by decide +kernel
theorem dX4_init_9 : decode cX4_init 9 = .ok (.invokespecial 11, 3) := by decide +kernel
theorem dX4_init_12 : decode cX4_init 12 = .ok (.putfield 12, 3) := by decide +kernel
theorem dX4_init_15 : decode cX4_init 15 = .ok (.aload_n 0, 1) := by decide +kernel
theorem dX4_init_16 : decode cX4_init 16 = .ok (.new 9, 3) := by decide +kernel
theorem dX4_init_19 : decode cX4_init 19 = .ok (.dup, 1) := by decide +kernel
theorem dX4_init_20 : decode cX4_init 20 = .ok (.invokespecial 11, 3) := by decide +kernel
theorem dX4_init_23 : decode cX4_init 23 = .ok (.putfield 18, 3) := by decide +kernel
theorem dX4_init_26 : decode cX4_init 26 = .ok (.aload_n 0, 1) := by decide +kernel
theorem dX4_init_27 : decode cX4_init 27 = .ok (.new 21, 3) := by decide +kernel
theorem dX4_init_30 : decode cX4_init 30 = .ok (.dup, 1) := by decide +kernel
theorem dX4_init_31 : decode cX4_init 31 = .ok (.invokespecial 23, 3) := by decide +kernel
theorem dX4_init_34 : decode cX4_init 34 = .ok (.putfield 24, 3) := by decide +kernel
theorem dX4_init_37 : decode cX4_init 37 = .ok (.aload_n 0, 1) := by decide +kernel
theorem dX4_init_38 : decode cX4_init 38 = .ok (.new 9, 3) := by decide +kernel
theorem dX4_init_41 : decode cX4_init 41 = .ok (.dup, 1) := by decide +kernel
theorem dX4_init_42 : decode cX4_init 42 = .ok (.invokespecial 11, 3) := by decide +kernel
theorem dX4_init_45 : decode cX4_init 45 = .ok (.putfield 28, 3) := by decide +kernel
theorem dX4_init_48 : decode cX4_init 48 = .ok (.aload_n 0, 1) := by decide +kernel
theorem dX4_init_49 : decode cX4_init 49 = .ok (.new 9, 3) := by decide +kernel
theorem dX4_init_52 : decode cX4_init 52 = .ok (.dup, 1) := by decide +kernel
theorem dX4_init_53 : decode cX4_init 53 = .ok (.invokespecial 11, 3) := by decide +kernel
theorem dX4_init_56 : decode cX4_init 56 = .ok (.putfield 31, 3) := by decide +kernel
theorem dX4_init_59 : decode cX4_init 59 = .ok (.return_, 1) := by decide +kernel
theorem dX4_insertAtBestPlace_0 : decode cX4_insertAtBestPlace 0 = .ok (.aload_n 1, 1) := by decide +kernel
theorem dX4_insertAtBestPlace_1 : decode cX4_insertAtBestPlace 1 = .ok (.getfield 34, 3) := by decide +kernel
theorem dX4_insertAtBestPlace_4 : decode cX4_insertAtBestPlace 4 = .ok (.astore_n 2, 1) := by decide +kernel
theorem dX4_insertAtBestPlace_5 : decode cX4_insertAtBestPlace 5 = .ok (.aload_n 2, 1) := by decide +kernel
theorem dX4_insertAtBestPlace_6 : decode cX4_insertAtBestPlace 6 = .ok (.getfield 40, 3) := by decide +kernel
theorem dX4_insertAtBestPlace_9 : decode cX4_insertAtBestPlace 9 = .ok (.invokevirtual 45, 3) := by decide +kernel
theorem dX4_insertAtBestPlace_12 : decode cX4_insertAtBestPlace 12 = .ok (.istore_n 3, 1) := by decide +kernel
theorem dX4_insertAtBestPlace_13 : decode cX4_insertAtBestPlace 13 = .ok (.iload_n 3, 1) := by decide +kernel
theorem dX4_insertAtBestPlace_14 : decode cX4_insertAtBestPlace 14 = .ok (.istore 4, 2) := by decide +kernel
theorem dX4_insertAtBestPlace_16 : decode cX4_insertAtBestPlace 16 = .ok (.ldc 49, 2) := by decide +kernel
theorem dX4_insertAtBestPlace_18 : decode cX4_insertAtBestPlace 18 = .ok (.istore 5, 2) := by decide +kernel
theorem dX4_insertAtBestPlace_20 : decode cX4_insertAtBestPlace 20 = .ok (.ldc 49, 2) := by decide +kernel
theorem dX4_insertAtBestPlace_22 : decode cX4_insertAtBestPlace 22 = .ok (.istore 6, 2) := by decide +kernel
theorem dX4_insertAtBestPlace_24 : decode cX4_insertAtBestPlace 24 = .ok (.iconst 0, 1) := by decide +kernel
theorem dX4_insertAtBestPlace_25 : decode cX4_insertAtBestPlace 25 = .ok (.istore 7, 2) := by decide +kernel
theorem dX4_insertAtBestPlace_27 : decode cX4_insertAtBestPlace 27 = .ok (.iload 7, 2) := by decide +kernel
theorem dX4_insertAtBestPlace_29 : decode cX4_insertAtBestPlace 29 = .ok (.iload_n 3, 1) := by decide +kernel
theorem dX4_insertAtBestPlace_30 : decode cX4_insertAtBestPlace 30 = .ok (.if_icmp .gt 72, 3) := by decide +kernel
theorem dX4_insertAtBestPlace_33 : decode cX4_insertAtBestPlace 33 = .ok (.aload_n 2, 1) := by decide +kernel
theorem dX4_insertAtBestPlace_34 : decode cX4_insertAtBestPlace 34 = .ok (.aload_n 1, 1) := by decide +kernel
theorem dX4_insertAtBestPlace_35 : decode cX4_insertAtBestPlace 35 = .ok (.iload 7, 2) := by decide +kernel
theorem dX4_insertAtBestPlace_37 : decode cX4_insertAtBestPlace 37 = .ok (.invokevirtual 50, 3) := by decide +kernel
theorem dX4_insertAtBestPlace_40 : decode cX4_insertAtBestPlace 40 = .ok (.aload_n 0, 1) := by decide +kernel
theorem dX4_insertAtBestPlace_41 : decode cX4_insertAtBestPlace 41 = .ok (.invokevirtual 54, 3) := by decide +kernel
theorem dX4_insertAtBestPlace_44 : decode cX4_insertAtBestPlace 44 = .ok (.ifCond .eq 46, 3) := by decide +kernel
theorem dX4_insertAtBestPlace_47 : decode cX4_insertAtBestPlace 47 = .ok (.aload_n 0, 1) := by decide +kernel
theorem dX4_insertAtBestPlace_48 : decode cX4_insertAtBestPlace 48 = .ok (.getfield 58, 3) := by decide +kernel
theorem dX4_insertAtBestPlace_51 : decode cX4_insertAtBestPlace 51 = .ok (.iload 5, 2) := by decide +kernel
theorem dX4_insertAtBestPlace_53 : decode cX4_insertAtBestPlace 53 = .ok (.if_icmp .lt 21, 3) := by decide +kernel
theorem dX4_insertAtBestPlace_56 : decode cX4_insertAtBestPlace 56 = .ok (.aload_n 0, 1) := by decide +kernel
theorem dX4_insertAtBestPlace_57 : decode cX4_insertAtBestPlace 57 = .ok (.getfield 58, 3) := by decide +kernel
theorem dX4_insertAtBestPlace_60 : decode cX4_insertAtBestPlace 60 = .ok (.iload 5, 2) := by decide +kernel
theorem dX4_insertAtBestPlace_62 : decode cX4_insertAtBestPlace 62 = .ok (.if_icmp .ne 28, 3) := by decide +kernel
theorem dX4_insertAtBestPlace_65 : decode cX4_insertAtBestPlace 65 = .ok (.aload_n 1, 1) := by decide +kernel
theorem dX4_insertAtBestPlace_66 : decode cX4_insertAtBestPlace 66 = .ok (.getfield 62, 3) := by decide +kernel
theorem dX4_insertAtBestPlace_69 : decode cX4_insertAtBestPlace 69 = .ok (.iload 6, 2) := by decide +kernel
theorem dX4_insertAtBestPlace_71 : decode cX4_insertAtBestPlace 71 = .ok (.if_icmp .ge 19, 3) := by decide +kernel
theorem dX4_insertAtBestPlace_74 : decode cX4_insertAtBestPlace 74 = .ok (.iload 7, 2) := by decide +kernel
theorem dX4_insertAtBestPlace_76 : decode cX4_insertAtBestPlace 76 = .ok (.istore 4, 2) := by decide +kernel
theorem dX4_insertAtBestPlace_78 : decode cX4_insertAtBestPlace 78 = .ok (.aload_n 0, 1) := by decide +kernel
theorem dX4_insertAtBestPlace_79 : decode cX4_insertAtBestPlace 79 = .ok (.getfield 58, 3) := by decide +kernel
theorem dX4_insertAtBestPlace_82 : decode cX4_insertAtBestPlace 82 = .ok (.istore 5, 2) := by decide +kernel
theorem dX4_insertAtBestPlace_84 : decode cX4_insertAtBestPlace 84 = .ok (.aload_n 1, 1) := by decide +kernel
theorem dX4_insertAtBestPlace_85 : decode cX4_insertAtBestPlace 85 = .ok (.getfield 62, 3) := by decide +kernel
theorem dX4_insertAtBestPlace_88 : decode cX4_insertAtBestPlace 88 = .ok (.istore 6, 2) := by decide +kernel
theorem dX4_insertAtBestPlace_90 : decode cX4_insertAtBestPlace 90 = .ok (.aload_n 2, 1) := by decide +kernel
theorem dX4_insertAtBestPlace_91 : decode cX4_insertAtBestPlace 91 = .ok (.iload 7, 2) := by decide +kernel
theorem dX4_insertAtBestPlace_93 : decode cX4_insertAtBestPlace 93 = .ok (.invokevirtual 65, 3) := by decide +kernel
theorem dX4_insertAtBestPlace_96 : decode cX4_insertAtBestPlace 96 = .ok (.iinc 7 1, 3) := by decide +kernel
theorem dX4_insertAtBestPlace_99 : decode cX4_insertAtBestPlace 99 = .ok (.goto (-72), 3) := by decide +kernel
theorem dX4_insertAtBestPlace_102 : decode cX4_insertAtBestPlace 102 = .ok (.aload_n 2, 1) := by decide +kernel
theorem dX4_insertAtBestPlace_103 : decode cX4_insertAtBestPlace 103 = .ok (.aload_n 1, 1) := by decide +kernel
theorem dX4_insertAtBestPlace_104 : decode cX4_insertAtBestPlace 104 = .ok (.iload 4, 2) := by decide +kernel
theorem dX4_insertAtBestPlace_106 : decode cX4_insertAtBestPlace 106 = .ok (.invokevirtual 50, 3) := by decide +kernel
theorem dX4_insertAtBestPlace_109 : decode cX4_insertAtBestPlace 109 = .ok (.return_, 1) := by decide +kernel
theorem dX4_timeAll_0 : decode cX4_timeAll 0 = .ok (.aload_n 0, 1) := by decide +kernel
theorem dX4_timeAll_1 : decode cX4_timeAll 1 = .ok (.invokevirtual 69, 3) := by decide +kernel
theorem dX4_timeAll_4 : decode cX4_timeAll 4 = .ok (.istore_n 1, 1) := by decide +kernel
theorem dX4_timeAll_5 : decode cX4_timeAll 5 = .ok (.iconst 0, 1) := by decide +kernel
theorem dX4_timeAll_6 : decode cX4_timeAll 6 = .ok (.istore_n 2, 1) := by decide +kernel
theorem dX4_timeAll_7 : decode cX4_timeAll 7 = .ok (.iload_n 2, 1) := by decide +kernel
theorem dX4_timeAll_8 : decode cX4_timeAll 8 = .ok (.bipush 32, 2) := by decide +kernel
theorem dX4_timeAll_10 : decode cX4_timeAll 10 = .ok (.if_icmp .ge 78, 3) := by decide +kernel
theorem dX4_timeAll_13 : decode cX4_timeAll 13 = .ok (.aload_n 0, 1) := by decide +kernel
theorem dX4_timeAll_14 : decode cX4_timeAll 14 = .ok (.getfield 28, 3) := by decide +kernel
theorem dX4_timeAll_17 : decode cX4_timeAll 17 = .ok (.invokevirtual 45, 3) := by decide +kernel
theorem dX4_timeAll_20 : decode cX4_timeAll 20 = .ok (.iload_n 1, 1) := by decide +kernel
theorem dX4_timeAll_21 : decode cX4_timeAll 21 = .ok (.if_icmp .ge 67, 3) := by decide +kernel
theorem dX4_timeAll_24 : decode cX4_timeAll 24 = .ok (.aload_n 0, 1) := by decide +kernel
theorem dX4_timeAll_25 : decode cX4_timeAll 25 = .ok (.getfield 28, 3) := by decide +kernel
theorem dX4_timeAll_28 : decode cX4_timeAll 28 = .ok (.invokevirtual 45, 3) := by decide +kernel
theorem dX4_timeAll_31 : decode cX4_timeAll 31 = .ok (.istore_n 3, 1) := by decide +kernel
theorem dX4_timeAll_32 : decode cX4_timeAll 32 = .ok (.iconst 0, 1) := by decide +kernel
theorem dX4_timeAll_33 : decode cX4_timeAll 33 = .ok (.istore 4, 2) := by decide +kernel
theorem dX4_timeAll_35 : decode cX4_timeAll 35 = .ok (.iload 4, 2) := by decide +kernel
theorem dX4_timeAll_37 : decode cX4_timeAll 37 = .ok (.aload_n 0, 1) := by decide +kernel
theorem dX4_timeAll_38 : decode cX4_timeAll 38 = .ok (.getfield 12, 3) := by decide +kernel
theorem dX4_timeAll_41 : decode cX4_timeAll 41 = .ok (.invokevirtual 45, 3) := by decide +kernel
theorem dX4_timeAll_44 : decode cX4_timeAll 44 = .ok (.if_icmp .ge 25, 3) := by decide +kernel
theorem dX4_timeAll_47 : decode cX4_timeAll 47 = .ok (.aload_n 0, 1) := by decide +kernel
theorem dX4_timeAll_48 : decode cX4_timeAll 48 = .ok (.aload_n 0, 1) := by decide +kernel
theorem dX4_timeAll_49 : decode cX4_timeAll 49 = .ok (.getfield 12, 3) := by decide +kernel
theorem dX4_timeAll_52 : decode cX4_timeAll 52 = .ok (.iload 4, 2) := by decide +kernel
theorem dX4_timeAll_54 : decode cX4_timeAll 54 = .ok (.invokevirtual 72, 3) := by decide +kernel
theorem dX4_timeAll_57 : decode cX4_timeAll 57 = .ok (.checkcast 41, 3) := by decide +kernel
theorem dX4_timeAll_60 : decode cX4_timeAll 60 = .ok (.invokevirtual 76, 3) := by decide +kernel
theorem dX4_timeAll_63 : decode cX4_timeAll 63 = .ok (.iinc 4 1, 3) := by decide +kernel
theorem dX4_timeAll_66 : decode cX4_timeAll 66 = .ok (.goto (-31), 3) := by decide +kernel
theorem dX4_timeAll_69 : decode cX4_timeAll 69 = .ok (.aload_n 0, 1) := by decide +kernel
theorem dX4_timeAll_70 : decode cX4_timeAll 70 = .ok (.getfield 28, 3) := by decide +kernel
theorem dX4_timeAll_73 : decode cX4_timeAll 73 = .ok (.invokevirtual 45, 3) := by decide +kernel
theorem dX4_timeAll_76 : decode cX4_timeAll 76 = .ok (.iload_n 3, 1) := by decide +kernel
theorem dX4_timeAll_77 : decode cX4_timeAll 77 = .ok (.if_icmp .ne 5, 3) := by decide +kernel
theorem dX4_timeAll_80 : decode cX4_timeAll 80 = .ok (.iconst 0, 1) := by decide +kernel
theorem dX4_timeAll_81 : decode cX4_timeAll 81 = .ok (.ireturn, 1) := by decide +kernel
theorem dX4_timeAll_82 : decode cX4_timeAll 82 = .ok (.iinc 2 1, 3) := by decide +kernel
theorem dX4_timeAll_85 : decode cX4_timeAll 85 = .ok (.goto (-78), 3) := by decide +kernel
theorem dX4_timeAll_88 : decode cX4_timeAll 88 = .ok (.aload_n 0, 1) := by decide +kernel
theorem dX4_timeAll_89 : decode cX4_timeAll 89 = .ok (.getfield 28, 3) := by decide +kernel
theorem dX4_timeAll_92 : decode cX4_timeAll 92 = .ok (.invokevirtual 45, 3) := by decide +kernel
theorem dX4_timeAll_95 : decode cX4_timeAll 95 = .ok (.iload_n 1, 1) := by decide +kernel
theorem dX4_timeAll_96 : decode cX4_timeAll 96 = .ok (.if_icmp .ne 7, 3) := by decide +kernel
theorem dX4_timeAll_99 : decode cX4_timeAll 99 = .ok (.iconst 1, 1) := by decide +kernel
theorem dX4_timeAll_100 : decode cX4_timeAll 100 = .ok (.goto 4, 3) := by decide +kernel
theorem dX4_timeAll_103 : decode cX4_timeAll 103 = .ok (.iconst 0, 1) := by decide +kernel
theorem dX4_timeAll_104 : decode cX4_timeAll 104 = .ok (.ireturn, 1) := by decide +kernel
theorem dX4_begin_0 : decode cX4_begin 0 = .ok (.aload_n 0, 1) := by decide +kernel
theorem dX4_begin_1 : decode cX4_begin 1 = .ok (.iconst 0, 1) := by decide +kernel
theorem dX4_begin_2 : decode cX4_begin 2 = .ok (.putfield 58, 3) := by decide +kernel
theorem dX4_begin_5 : decode cX4_begin 5 = .ok (.aload_n 0, 1) := by decide +kernel
theorem dX4_begin_6 : decode cX4_begin 6 = .ok (.getfield 28, 3) := by decide +kernel
theorem dX4_begin_9 : decode cX4_begin 9 = .ok (.invokevirtual 80, 3) := by decide +kernel
theorem dX4_begin_12 : decode cX4_begin 12 = .ok (.iconst 0, 1) := by decide +kernel
theorem dX4_begin_13 : decode cX4_begin 13 = .ok (.istore_n 1, 1) := by decide +kernel
theorem dX4_begin_14 : decode cX4_begin 14 = .ok (.iload_n 1, 1) := by decide +kernel
theorem dX4_begin_15 : decode cX4_begin 15 = .ok (.aload_n 0, 1) := by decide +kernel
theorem dX4_begin_16 : decode cX4_begin 16 = .ok (.getfield 18, 3) := by decide +kernel
theorem dX4_begin_19 : decode cX4_begin 19 = .ok (.invokevirtual 45, 3) := by decide +kernel
theorem dX4_begin_22 : decode cX4_begin 22 = .ok (.if_icmp .ge 24, 3) := by decide +kernel
theorem dX4_begin_25 : decode cX4_begin 25 = .ok (.aload_n 0, 1) := by decide +kernel
theorem dX4_begin_26 : decode cX4_begin 26 = .ok (.getfield 18, 3) := by decide +kernel
theorem dX4_begin_29 : decode cX4_begin 29 = .ok (.iload_n 1, 1) := by decide +kernel
theorem dX4_begin_30 : decode cX4_begin 30 = .ok (.invokevirtual 72, 3) := by decide +kernel
theorem dX4_begin_33 : decode cX4_begin 33 = .ok (.checkcast 83, 3) := by decide +kernel
theorem dX4_begin_36 : decode cX4_begin 36 = .ok (.iconst 0, 1) := by decide +kernel
theorem dX4_begin_37 : decode cX4_begin 37 = .ok (.putfield 85, 3) := by decide +kernel
theorem dX4_begin_40 : decode cX4_begin 40 = .ok (.iinc 1 1, 3) := by decide +kernel
theorem dX4_begin_43 : decode cX4_begin 43 = .ok (.goto (-29), 3) := by decide +kernel
theorem dX4_begin_46 : decode cX4_begin 46 = .ok (.iconst 0, 1) := by decide +kernel
theorem dX4_begin_47 : decode cX4_begin 47 = .ok (.istore_n 1, 1) := by decide +kernel
theorem dX4_begin_48 : decode cX4_begin 48 = .ok (.iconst 0, 1) := by decide +kernel
theorem dX4_begin_49 : decode cX4_begin 49 = .ok (.istore_n 2, 1) := by decide +kernel
theorem dX4_begin_50 : decode cX4_begin 50 = .ok (.iload_n 2, 1) := by decide +kernel
theorem dX4_begin_51 : decode cX4_begin 51 = .ok (.aload_n 0, 1) := by decide +kernel
theorem dX4_begin_52 : decode cX4_begin 52 = .ok (.getfield 12, 3) := by decide +kernel
theorem dX4_begin_55 : decode cX4_begin 55 = .ok (.invokevirtual 45, 3) := by decide +kernel
theorem dX4_begin_58 : decode cX4_begin 58 = .ok (.if_icmp .ge 44, 3) := by decide +kernel
theorem dX4_begin_61 : decode cX4_begin 61 = .ok (.aload_n 0, 1) := by decide +kernel
theorem dX4_begin_62 : decode cX4_begin 62 = .ok (.getfield 12, 3) := by decide +kernel
theorem dX4_begin_65 : decode cX4_begin 65 = .ok (.iload_n 2, 1) := by decide +kernel
theorem dX4_begin_66 : decode cX4_begin 66 = .ok (.invokevirtual 72, 3) := by decide +kernel
theorem dX4_begin_69 : decode cX4_begin 69 = .ok (.checkcast 41, 3) := by decide +kernel
theorem dX4_begin_72 : decode cX4_begin 72 = .ok (.iconst 0, 1) := by decide +kernel
theorem dX4_begin_73 : decode cX4_begin 73 = .ok (.putfield 88, 3) := by decide +kernel
theorem dX4_begin_76 : decode cX4_begin 76 = .ok (.iload_n 1, 1) := by decide +kernel
theorem dX4_begin_77 : decode cX4_begin 77 = .ok (.aload_n 0, 1) := by decide +kernel
theorem dX4_begin_78 : decode cX4_begin 78 = .ok (.getfield 12, 3) := by decide +kernel
theorem dX4_begin_81 : decode cX4_begin 81 = .ok (.iload_n 2, 1) := by decide +kernel
theorem dX4_begin_82 : decode cX4_begin 82 = .ok (.invokevirtual 72, 3) := by decide +kernel
theorem dX4_begin_85 : decode cX4_begin 85 = .ok (.checkcast 41, 3) := by decide +kernel
theorem dX4_begin_88 : decode cX4_begin 88 = .ok (.getfield 40, 3) := by decide +kernel
theorem dX4_begin_91 : decode cX4_begin 91 = .ok (.invokevirtual 45, 3) := by decide +kernel
theorem dX4_begin_94 : decode cX4_begin 94 = .ok (.iadd, 1) := by decide +kernel
theorem dX4_begin_95 : decode cX4_begin 95 = .ok (.istore_n 1, 1) := by decide +kernel
theorem dX4_begin_96 : decode cX4_begin 96 = .ok (.iinc 2 1, 3) := by decide +kernel
theorem dX4_begin_99 : decode cX4_begin 99 = .ok (.goto (-49), 3) := by decide +kernel
theorem dX4_begin_102 : decode cX4_begin 102 = .ok (.iload_n 1, 1) := by decide +kernel
theorem dX4_begin_103 : decode cX4_begin 103 = .ok (.ireturn, 1) := by decide +kernel
theorem dX4_timeRow_0 : decode cX4_timeRow 0 = .ok (.aload_n 1, 1) := by decide +kernel
theorem dX4_timeRow_1 : decode cX4_timeRow 1 = .ok (.getfield 88, 3) := by decide +kernel
theorem dX4_timeRow_4 : decode cX4_timeRow 4 = .ok (.istore_n 2, 1) := by decide +kernel
theorem dX4_timeRow_5 : decode cX4_timeRow 5 = .ok (.iload_n 2, 1) := by decide +kernel
theorem dX4_timeRow_6 : decode cX4_timeRow 6 = .ok (.aload_n 1, 1) := by decide +kernel
theorem dX4_timeRow_7 : decode cX4_timeRow 7 = .ok (.getfield 40, 3) := by decide +kernel
theorem dX4_timeRow_10 : decode cX4_timeRow 10 = .ok (.invokevirtual 45, 3) := by decide +kernel
theorem dX4_timeRow_13 : decode cX4_timeRow 13 = .ok (.if_icmp .ge 64, 3) := by decide +kernel
theorem dX4_timeRow_16 : decode cX4_timeRow 16 = .ok (.aload_n 1, 1) := by decide +kernel
theorem dX4_timeRow_17 : decode cX4_timeRow 17 = .ok (.getfield 40, 3) := by decide +kernel
theorem dX4_timeRow_20 : decode cX4_timeRow 20 = .ok (.iload_n 2, 1) := by decide +kernel
theorem dX4_timeRow_21 : decode cX4_timeRow 21 = .ok (.invokevirtual 72, 3) := by decide +kernel
theorem dX4_timeRow_24 : decode cX4_timeRow 24 = .ok (.checkcast 35, 3) := by decide +kernel
theorem dX4_timeRow_27 : decode cX4_timeRow 27 = .ok (.astore_n 3, 1) := by decide +kernel
theorem dX4_timeRow_28 : decode cX4_timeRow 28 = .ok (.aload_n 3, 1) := by decide +kernel
theorem dX4_timeRow_29 : decode cX4_timeRow 29 = .ok (.getfield 89, 3) := by decide +kernel
theorem dX4_timeRow_32 : decode cX4_timeRow 32 = .ok (.aload_n 3, 1) := by decide +kernel
theorem dX4_timeRow_33 : decode cX4_timeRow 33 = .ok (.getfield 92, 3) := by decide +kernel
theorem dX4_timeRow_36 : decode cX4_timeRow 36 = .ok (.getfield 85, 3) := by decide +kernel
theorem dX4_timeRow_39 : decode cX4_timeRow 39 = .ok (.if_icmp .eq 4, 3) := by decide +kernel
theorem dX4_timeRow_42 : decode cX4_timeRow 42 = .ok (.return_, 1) := by decide +kernel
theorem dX4_timeRow_43 : decode cX4_timeRow 43 = .ok (.aload_n 0, 1) := by decide +kernel
theorem dX4_timeRow_44 : decode cX4_timeRow 44 = .ok (.aload_n 3, 1) := by decide +kernel
theorem dX4_timeRow_45 : decode cX4_timeRow 45 = .ok (.invokevirtual 96, 3) := by decide +kernel
theorem dX4_timeRow_48 : decode cX4_timeRow 48 = .ok (.aload_n 3, 1) := by decide +kernel
theorem dX4_timeRow_49 : decode cX4_timeRow 49 = .ok (.getfield 92, 3) := by decide +kernel
theorem dX4_timeRow_52 : decode cX4_timeRow 52 = .ok (.dup, 1) := by decide +kernel
theorem dX4_timeRow_53 : decode cX4_timeRow 53 = .ok (.getfield 85, 3) := by decide +kernel
theorem dX4_timeRow_56 : decode cX4_timeRow 56 = .ok (.iconst 1, 1) := by decide +kernel
theorem dX4_timeRow_57 : decode cX4_timeRow 57 = .ok (.iadd, 1) := by decide +kernel
theorem dX4_timeRow_58 : decode cX4_timeRow 58 = .ok (.putfield 85, 3) := by decide +kernel
theorem dX4_timeRow_61 : decode cX4_timeRow 61 = .ok (.aload_n 1, 1) := by decide +kernel
theorem dX4_timeRow_62 : decode cX4_timeRow 62 = .ok (.dup, 1) := by decide +kernel
theorem dX4_timeRow_63 : decode cX4_timeRow 63 = .ok (.getfield 88, 3) := by decide +kernel
theorem dX4_timeRow_66 : decode cX4_timeRow 66 = .ok (.iconst 1, 1) := by decide +kernel
theorem dX4_timeRow_67 : decode cX4_timeRow 67 = .ok (.iadd, 1) := by decide +kernel
theorem dX4_timeRow_68 : decode cX4_timeRow 68 = .ok (.putfield 88, 3) := by decide +kernel
theorem dX4_timeRow_71 : decode cX4_timeRow 71 = .ok (.iinc 2 1, 3) := by decide +kernel
theorem dX4_timeRow_74 : decode cX4_timeRow 74 = .ok (.goto (-69), 3) := by decide +kernel
theorem dX4_timeRow_77 : decode cX4_timeRow 77 = .ok (.return_, 1) := by decide +kernel
theorem dX4_timeOne_0 : decode cX4_timeOne 0 = .ok (.aload_n 1, 1) := by decide +kernel
theorem dX4_timeOne_1 : decode cX4_timeOne 1 = .ok (.getfield 100, 3) := by decide +kernel
theorem dX4_timeOne_4 : decode cX4_timeOne 4 = .ok (.astore_n 2, 1) := by decide +kernel
theorem dX4_timeOne_5 : decode cX4_timeOne 5 = .ok (.aload_n 1, 1) := by decide +kernel
theorem dX4_timeOne_6 : decode cX4_timeOne 6 = .ok (.getfield 104, 3) := by decide +kernel
theorem dX4_timeOne_9 : decode cX4_timeOne 9 = .ok (.astore_n 3, 1) := by decide +kernel
theorem dX4_timeOne_10 : decode cX4_timeOne 10 = .ok (.aload_n 3, 1) := by decide +kernel
theorem dX4_timeOne_11 : decode cX4_timeOne 11 = .ok (.ifnonnull 7, 3) := by decide +kernel
theorem dX4_timeOne_14 : decode cX4_timeOne 14 = .ok (.iconst 0, 1) := by decide +kernel
theorem dX4_timeOne_15 : decode cX4_timeOne 15 = .ok (.goto 7, 3) := by decide +kernel
theorem dX4_timeOne_18 : decode cX4_timeOne 18 = .ok (.aload_n 3, 1) := by decide +kernel
theorem dX4_timeOne_19 : decode cX4_timeOne 19 = .ok (.getfield 107, 3) := by decide +kernel
theorem dX4_timeOne_22 : decode cX4_timeOne 22 = .ok (.istore 4, 2) := by decide +kernel
theorem dX4_timeOne_24 : decode cX4_timeOne 24 = .ok (.iload 4, 2) := by decide +kernel
theorem dX4_timeOne_26 : decode cX4_timeOne 26 = .ok (.aload_n 0, 1) := by decide +kernel
theorem dX4_timeOne_27 : decode cX4_timeOne 27 = .ok (.getfield 24, 3) := by decide +kernel
theorem dX4_timeOne_30 : decode cX4_timeOne 30 = .ok (.aload_n 3, 1) := by decide +kernel
theorem dX4_timeOne_31 : decode cX4_timeOne 31 = .ok (.aload_n 1, 1) := by decide +kernel
theorem dX4_timeOne_32 : decode cX4_timeOne 32 = .ok (.invokevirtual 110, 3) := by decide +kernel
theorem dX4_timeOne_35 : decode cX4_timeOne 35 = .ok (.iadd, 1) := by decide +kernel
theorem dX4_timeOne_36 : decode cX4_timeOne 36 = .ok (.istore 5, 2) := by decide +kernel
theorem dX4_timeOne_38 : decode cX4_timeOne 38 = .ok (.aload_n 2, 1) := by decide +kernel
theorem dX4_timeOne_39 : decode cX4_timeOne 39 = .ok (.ifnull 14, 3) := by decide +kernel
theorem dX4_timeOne_42 : decode cX4_timeOne 42 = .ok (.iload 5, 2) := by decide +kernel
theorem dX4_timeOne_44 : decode cX4_timeOne 44 = .ok (.aload_n 2, 1) := by decide +kernel
theorem dX4_timeOne_45 : decode cX4_timeOne 45 = .ok (.getfield 107, 3) := by decide +kernel
theorem dX4_timeOne_48 : decode cX4_timeOne 48 = .ok (.invokestatic 114, 3) := by decide +kernel
theorem dX4_timeOne_51 : decode cX4_timeOne 51 = .ok (.istore 5, 2) := by decide +kernel
theorem dX4_timeOne_53 : decode cX4_timeOne 53 = .ok (.aload_n 1, 1) := by decide +kernel
theorem dX4_timeOne_54 : decode cX4_timeOne 54 = .ok (.aload_n 1, 1) := by decide +kernel
theorem dX4_timeOne_55 : decode cX4_timeOne 55 = .ok (.getfield 34, 3) := by decide +kernel
theorem dX4_timeOne_58 : decode cX4_timeOne 58 = .ok (.iload 5, 2) := by decide +kernel
theorem dX4_timeOne_60 : decode cX4_timeOne 60 = .ok (.aload_n 1, 1) := by decide +kernel
theorem dX4_timeOne_61 : decode cX4_timeOne 61 = .ok (.getfield 120, 3) := by decide +kernel
theorem dX4_timeOne_64 : decode cX4_timeOne 64 = .ok (.invokevirtual 123, 3) := by decide +kernel
theorem dX4_timeOne_67 : decode cX4_timeOne 67 = .ok (.putfield 62, 3) := by decide +kernel
theorem dX4_timeOne_70 : decode cX4_timeOne 70 = .ok (.aload_n 1, 1) := by decide +kernel
theorem dX4_timeOne_71 : decode cX4_timeOne 71 = .ok (.aload_n 1, 1) := by decide +kernel
theorem dX4_timeOne_72 : decode cX4_timeOne 72 = .ok (.getfield 62, 3) := by decide +kernel
theorem dX4_timeOne_75 : decode cX4_timeOne 75 = .ok (.aload_n 1, 1) := by decide +kernel
theorem dX4_timeOne_76 : decode cX4_timeOne 76 = .ok (.getfield 120, 3) := by decide +kernel
theorem dX4_timeOne_79 : decode cX4_timeOne 79 = .ok (.iadd, 1) := by decide +kernel
theorem dX4_timeOne_80 : decode cX4_timeOne 80 = .ok (.putfield 107, 3) := by decide +kernel
theorem dX4_timeOne_83 : decode cX4_timeOne 83 = .ok (.aload_n 0, 1) := by decide +kernel
theorem dX4_timeOne_84 : decode cX4_timeOne 84 = .ok (.aload_n 0, 1) := by decide +kernel
theorem dX4_timeOne_85 : decode cX4_timeOne 85 = .ok (.getfield 58, 3) := by decide +kernel
theorem dX4_timeOne_88 : decode cX4_timeOne 88 = .ok (.aload_n 1, 1) := by decide +kernel
theorem dX4_timeOne_89 : decode cX4_timeOne 89 = .ok (.getfield 107, 3) := by decide +kernel
theorem dX4_timeOne_92 : decode cX4_timeOne 92 = .ok (.invokestatic 114, 3) := by decide +kernel
theorem dX4_timeOne_95 : decode cX4_timeOne 95 = .ok (.putfield 58, 3) := by decide +kernel
theorem dX4_timeOne_98 : decode cX4_timeOne 98 = .ok (.aload_n 0, 1) := by decide +kernel
theorem dX4_timeOne_99 : decode cX4_timeOne 99 = .ok (.getfield 28, 3) := by decide +kernel
theorem dX4_timeOne_102 : decode cX4_timeOne 102 = .ok (.aload_n 1, 1) := by decide +kernel
theorem dX4_timeOne_103 : decode cX4_timeOne 103 = .ok (.invokevirtual 126, 3) := by decide +kernel
theorem dX4_timeOne_106 : decode cX4_timeOne 106 = .ok (.pop, 1) := by decide +kernel
theorem dX4_timeOne_107 : decode cX4_timeOne 107 = .ok (.return_, 1) := by decide +kernel
theorem dX4_putLaterInRounds_0 : decode cX4_putLaterInRounds 0 = .ok (.iconst 0, 1) := by decide +kernel
theorem dX4_putLaterInRounds_1 : decode cX4_putLaterInRounds 1 = .ok (.istore_n 1, 1) := by decide +kernel
theorem dX4_putLaterInRounds_2 : decode cX4_putLaterInRounds 2 = .ok (.iload_n 1, 1) := by decide +kernel
theorem dX4_putLaterInRounds_3 : decode cX4_putLaterInRounds 3 = .ok (.aload_n 0, 1) := by decide +kernel
theorem dX4_putLaterInRounds_4 : decode cX4_putLaterInRounds 4 = .ok (.getfield 28, 3) := by decide +kernel
theorem dX4_putLaterInRounds_7 : decode cX4_putLaterInRounds 7 = .ok (.invokevirtual 45, 3) := by decide +kernel
theorem dX4_putLaterInRounds_10 : decode cX4_putLaterInRounds 10 = .ok (.if_icmp .ge 24, 3) := by decide +kernel
theorem dX4_putLaterInRounds_13 : decode cX4_putLaterInRounds 13 = .ok (.aload_n 0, 1) := by decide +kernel
theorem dX4_putLaterInRounds_14 : decode cX4_putLaterInRounds 14 = .ok (.getfield 28, 3) := by decide +kernel
theorem dX4_putLaterInRounds_17 : decode cX4_putLaterInRounds 17 = .ok (.iload_n 1, 1) := by decide +kernel
theorem dX4_putLaterInRounds_18 : decode cX4_putLaterInRounds 18 = .ok (.invokevirtual 72, 3) := by decide +kernel
theorem dX4_putLaterInRounds_21 : decode cX4_putLaterInRounds 21 = .ok (.checkcast 35, 3) := by decide +kernel
theorem dX4_putLaterInRounds_24 : decode cX4_putLaterInRounds 24 = .ok (.iconst 0, 1) := by decide +kernel
theorem dX4_putLaterInRounds_25 : decode cX4_putLaterInRounds 25 = .ok (.putfield 130, 3) := by decide +kernel
theorem dX4_putLaterInRounds_28 : decode cX4_putLaterInRounds 28 = .ok (.iinc 1 1, 3) := by decide +kernel
theorem dX4_putLaterInRounds_31 : decode cX4_putLaterInRounds 31 = .ok (.goto (-29), 3) := by decide +kernel
theorem dX4_putLaterInRounds_34 : decode cX4_putLaterInRounds 34 = .ok (.iconst 1, 1) := by decide +kernel
theorem dX4_putLaterInRounds_35 : decode cX4_putLaterInRounds 35 = .ok (.istore_n 1, 1) := by decide +kernel
theorem dX4_putLaterInRounds_36 : decode cX4_putLaterInRounds 36 = .ok (.iconst 0, 1) := by decide +kernel
theorem dX4_putLaterInRounds_37 : decode cX4_putLaterInRounds 37 = .ok (.istore_n 2, 1) := by decide +kernel
theorem dX4_putLaterInRounds_38 : decode cX4_putLaterInRounds 38 = .ok (.iload_n 1, 1) := by decide +kernel
theorem dX4_putLaterInRounds_39 : decode cX4_putLaterInRounds 39 = .ok (.ifCond .eq 56, 3) := by decide +kernel
theorem dX4_putLaterInRounds_42 : decode cX4_putLaterInRounds 42 = .ok (.iload_n 2, 1) := by decide +kernel
theorem dX4_putLaterInRounds_43 : decode cX4_putLaterInRounds 43 = .ok (.bipush 32, 2) := by decide +kernel
theorem dX4_putLaterInRounds_45 : decode cX4_putLaterInRounds 45 = .ok (.if_icmp .gt 50, 3) := by decide +kernel
theorem dX4_putLaterInRounds_48 : decode cX4_putLaterInRounds 48 = .ok (.iconst 0, 1) := by decide +kernel
theorem dX4_putLaterInRounds_49 : decode cX4_putLaterInRounds 49 = .ok (.istore_n 1, 1) := by decide +kernel
theorem dX4_putLaterInRounds_50 : decode cX4_putLaterInRounds 50 = .ok (.iconst 0, 1) := by decide +kernel
theorem dX4_putLaterInRounds_51 : decode cX4_putLaterInRounds 51 = .ok (.istore_n 3, 1) := by decide +kernel
theorem dX4_putLaterInRounds_52 : decode cX4_putLaterInRounds 52 = .ok (.iload_n 3, 1) := by decide +kernel
theorem dX4_putLaterInRounds_53 : decode cX4_putLaterInRounds 53 = .ok (.aload_n 0, 1) := by decide +kernel
theorem dX4_putLaterInRounds_54 : decode cX4_putLaterInRounds 54 = .ok (.getfield 12, 3) := by decide +kernel
theorem dX4_putLaterInRounds_57 : decode cX4_putLaterInRounds 57 = .ok (.invokevirtual 45, 3) := by decide +kernel
theorem dX4_putLaterInRounds_60 : decode cX4_putLaterInRounds 60 = .ok (.if_icmp .ge 29, 3) := by decide +kernel
theorem dX4_putLaterInRounds_63 : decode cX4_putLaterInRounds 63 = .ok (.aload_n 0, 1) := by decide +kernel
theorem dX4_putLaterInRounds_64 : decode cX4_putLaterInRounds 64 = .ok (.aload_n 0, 1) := by decide +kernel
theorem dX4_putLaterInRounds_65 : decode cX4_putLaterInRounds 65 = .ok (.getfield 12, 3) := by decide +kernel
theorem dX4_putLaterInRounds_68 : decode cX4_putLaterInRounds 68 = .ok (.iload_n 3, 1) := by decide +kernel
theorem dX4_putLaterInRounds_69 : decode cX4_putLaterInRounds 69 = .ok (.invokevirtual 72, 3) := by decide +kernel
theorem dX4_putLaterInRounds_72 : decode cX4_putLaterInRounds 72 = .ok (.checkcast 41, 3) := by decide +kernel
theorem dX4_putLaterInRounds_75 : decode cX4_putLaterInRounds 75 = .ok (.invokevirtual 133, 3) := by decide +kernel
theorem dX4_putLaterInRounds_78 : decode cX4_putLaterInRounds 78 = .ok (.ifCond .eq 5, 3) := by decide +kernel
theorem dX4_putLaterInRounds_81 : decode cX4_putLaterInRounds 81 = .ok (.iconst 1, 1) := by decide +kernel
theorem dX4_putLaterInRounds_82 : decode cX4_putLaterInRounds 82 = .ok (.istore_n 1, 1) := by decide +kernel
theorem dX4_putLaterInRounds_83 : decode cX4_putLaterInRounds 83 = .ok (.iinc 3 1, 3) := by decide +kernel
theorem dX4_putLaterInRounds_86 : decode cX4_putLaterInRounds 86 = .ok (.goto (-34), 3) := by decide +kernel
theorem dX4_putLaterInRounds_89 : decode cX4_putLaterInRounds 89 = .ok (.iinc 2 1, 3) := by decide +kernel
theorem dX4_putLaterInRounds_92 : decode cX4_putLaterInRounds 92 = .ok (.goto (-54), 3) := by decide +kernel
theorem dX4_putLaterInRounds_95 : decode cX4_putLaterInRounds 95 = .ok (.return_, 1) := by decide +kernel
theorem dX4_putRowLater_0 : decode cX4_putRowLater 0 = .ok (.iconst 0, 1) := by decide +kernel
theorem dX4_putRowLater_1 : decode cX4_putRowLater 1 = .ok (.istore_n 2, 1) := by decide +kernel
theorem dX4_putRowLater_2 : decode cX4_putRowLater 2 = .ok (.iconst 0, 1) := by decide +kernel
theorem dX4_putRowLater_3 : decode cX4_putRowLater 3 = .ok (.istore_n 3, 1) := by decide +kernel
theorem dX4_putRowLater_4 : decode cX4_putRowLater 4 = .ok (.iload_n 3, 1) := by decide +kernel
theorem dX4_putRowLater_5 : decode cX4_putRowLater 5 = .ok (.aload_n 1, 1) := by decide +kernel
theorem dX4_putRowLater_6 : decode cX4_putRowLater 6 = .ok (.getfield 40, 3) := by decide +kernel
theorem dX4_putRowLater_9 : decode cX4_putRowLater 9 = .ok (.invokevirtual 45, 3) := by decide +kernel
theorem dX4_putRowLater_12 : decode cX4_putRowLater 12 = .ok (.if_icmp .ge 58, 3) := by decide +kernel
theorem dX4_putRowLater_15 : decode cX4_putRowLater 15 = .ok (.aload_n 1, 1) := by decide +kernel
theorem dX4_putRowLater_16 : decode cX4_putRowLater 16 = .ok (.getfield 40, 3) := by decide +kernel
theorem dX4_putRowLater_19 : decode cX4_putRowLater 19 = .ok (.iload_n 3, 1) := by decide +kernel
theorem dX4_putRowLater_20 : decode cX4_putRowLater 20 = .ok (.invokevirtual 72, 3) := by decide +kernel
theorem dX4_putRowLater_23 : decode cX4_putRowLater 23 = .ok (.checkcast 35, 3) := by decide +kernel
theorem dX4_putRowLater_26 : decode cX4_putRowLater 26 = .ok (.astore 4, 2) := by decide +kernel
theorem dX4_putRowLater_28 : decode cX4_putRowLater 28 = .ok (.aload_n 1, 1) := by decide +kernel
theorem dX4_putRowLater_29 : decode cX4_putRowLater 29 = .ok (.aload_n 0, 1) := by decide +kernel
theorem dX4_putRowLater_30 : decode cX4_putRowLater 30 = .ok (.aload 4, 2) := by decide +kernel
theorem dX4_putRowLater_32 : decode cX4_putRowLater 32 = .ok (.invokevirtual 137, 3) := by decide +kernel
theorem dX4_putRowLater_35 : decode cX4_putRowLater 35 = .ok (.aload 4, 2) := by decide +kernel
theorem dX4_putRowLater_37 : decode cX4_putRowLater 37 = .ok (.getfield 120, 3) := by decide +kernel
theorem dX4_putRowLater_40 : decode cX4_putRowLater 40 = .ok (.invokevirtual 123, 3) := by decide +kernel
theorem dX4_putRowLater_43 : decode cX4_putRowLater 43 = .ok (.istore 5, 2) := by decide +kernel
theorem dX4_putRowLater_45 : decode cX4_putRowLater 45 = .ok (.iload 5, 2) := by decide +kernel
theorem dX4_putRowLater_47 : decode cX4_putRowLater 47 = .ok (.aload 4, 2) := by decide +kernel
theorem dX4_putRowLater_49 : decode cX4_putRowLater 49 = .ok (.getfield 130, 3) := by decide +kernel
theorem dX4_putRowLater_52 : decode cX4_putRowLater 52 = .ok (.if_icmp .le 12, 3) := by decide +kernel
theorem dX4_putRowLater_55 : decode cX4_putRowLater 55 = .ok (.aload 4, 2) := by decide +kernel
theorem dX4_putRowLater_57 : decode cX4_putRowLater 57 = .ok (.iload 5, 2) := by decide +kernel
theorem dX4_putRowLater_59 : decode cX4_putRowLater 59 = .ok (.putfield 130, 3) := by decide +kernel
theorem dX4_putRowLater_62 : decode cX4_putRowLater 62 = .ok (.iconst 1, 1) := by decide +kernel
theorem dX4_putRowLater_63 : decode cX4_putRowLater 63 = .ok (.istore_n 2, 1) := by decide +kernel
theorem dX4_putRowLater_64 : decode cX4_putRowLater 64 = .ok (.iinc 3 1, 3) := by decide +kernel
theorem dX4_putRowLater_67 : decode cX4_putRowLater 67 = .ok (.goto (-63), 3) := by decide +kernel
theorem dX4_putRowLater_70 : decode cX4_putRowLater 70 = .ok (.iload_n 2, 1) := by decide +kernel
theorem dX4_putRowLater_71 : decode cX4_putRowLater 71 = .ok (.ireturn, 1) := by decide +kernel
theorem dX4_readyInRounds_0 : decode cX4_readyInRounds 0 = .ok (.aload_n 1, 1) := by decide +kernel
theorem dX4_readyInRounds_1 : decode cX4_readyInRounds 1 = .ok (.getfield 100, 3) := by decide +kernel
theorem dX4_readyInRounds_4 : decode cX4_readyInRounds 4 = .ok (.astore_n 2, 1) := by decide +kernel
theorem dX4_readyInRounds_5 : decode cX4_readyInRounds 5 = .ok (.aload_n 1, 1) := by decide +kernel
theorem dX4_readyInRounds_6 : decode cX4_readyInRounds 6 = .ok (.getfield 104, 3) := by decide +kernel
theorem dX4_readyInRounds_9 : decode cX4_readyInRounds 9 = .ok (.astore_n 3, 1) := by decide +kernel
theorem dX4_readyInRounds_10 : decode cX4_readyInRounds 10 = .ok (.aload_n 3, 1) := by decide +kernel
theorem dX4_readyInRounds_11 : decode cX4_readyInRounds 11 = .ok (.ifnonnull 7, 3) := by decide +kernel
theorem dX4_readyInRounds_14 : decode cX4_readyInRounds 14 = .ok (.iconst 0, 1) := by decide +kernel
theorem dX4_readyInRounds_15 : decode cX4_readyInRounds 15 = .ok (.goto 12, 3) := by decide +kernel
theorem dX4_readyInRounds_18 : decode cX4_readyInRounds 18 = .ok (.aload_n 3, 1) := by decide +kernel
theorem dX4_readyInRounds_19 : decode cX4_readyInRounds 19 = .ok (.getfield 130, 3) := by decide +kernel
theorem dX4_readyInRounds_22 : decode cX4_readyInRounds 22 = .ok (.aload_n 3, 1) := by decide +kernel
theorem dX4_readyInRounds_23 : decode cX4_readyInRounds 23 = .ok (.getfield 120, 3) := by decide +kernel
theorem dX4_readyInRounds_26 : decode cX4_readyInRounds 26 = .ok (.iadd, 1) := by decide +kernel
theorem dX4_readyInRounds_27 : decode cX4_readyInRounds 27 = .ok (.istore 4, 2) := by decide +kernel
theorem dX4_readyInRounds_29 : decode cX4_readyInRounds 29 = .ok (.iload 4, 2) := by decide +kernel
theorem dX4_readyInRounds_31 : decode cX4_readyInRounds 31 = .ok (.aload_n 0, 1) := by decide +kernel
theorem dX4_readyInRounds_32 : decode cX4_readyInRounds 32 = .ok (.getfield 24, 3) := by decide +kernel
theorem dX4_readyInRounds_35 : decode cX4_readyInRounds 35 = .ok (.aload_n 3, 1) := by decide +kernel
theorem dX4_readyInRounds_36 : decode cX4_readyInRounds 36 = .ok (.aload_n 1, 1) := by decide +kernel
theorem dX4_readyInRounds_37 : decode cX4_readyInRounds 37 = .ok (.invokevirtual 110, 3) := by decide +kernel
theorem dX4_readyInRounds_40 : decode cX4_readyInRounds 40 = .ok (.iadd, 1) := by decide +kernel
theorem dX4_readyInRounds_41 : decode cX4_readyInRounds 41 = .ok (.istore 5, 2) := by decide +kernel
theorem dX4_readyInRounds_43 : decode cX4_readyInRounds 43 = .ok (.aload_n 2, 1) := by decide +kernel
theorem dX4_readyInRounds_44 : decode cX4_readyInRounds 44 = .ok (.ifnonnull 8, 3) := by decide +kernel
theorem dX4_readyInRounds_47 : decode cX4_readyInRounds 47 = .ok (.iload 5, 2) := by decide +kernel
theorem dX4_readyInRounds_49 : decode cX4_readyInRounds 49 = .ok (.goto 17, 3) := by decide +kernel
theorem dX4_readyInRounds_52 : decode cX4_readyInRounds 52 = .ok (.iload 5, 2) := by decide +kernel
theorem dX4_readyInRounds_54 : decode cX4_readyInRounds 54 = .ok (.aload_n 2, 1) := by decide +kernel
theorem dX4_readyInRounds_55 : decode cX4_readyInRounds 55 = .ok (.getfield 130, 3) := by decide +kernel
theorem dX4_readyInRounds_58 : decode cX4_readyInRounds 58 = .ok (.aload_n 2, 1) := by decide +kernel
theorem dX4_readyInRounds_59 : decode cX4_readyInRounds 59 = .ok (.getfield 120, 3) := by decide +kernel
theorem dX4_readyInRounds_62 : decode cX4_readyInRounds 62 = .ok (.iadd, 1) := by decide +kernel
theorem dX4_readyInRounds_63 : decode cX4_readyInRounds 63 = .ok (.invokestatic 114, 3) := by decide +kernel
theorem dX4_readyInRounds_66 : decode cX4_readyInRounds 66 = .ok (.ireturn, 1) := by decide +kernel
theorem dX4_findLatestStarts_0 : decode cX4_findLatestStarts 0 = .ok (.aload_n 0, 1) := by decide +kernel
theorem dX4_findLatestStarts_1 : decode cX4_findLatestStarts 1 = .ok (.getfield 28, 3) := by decide +kernel
theorem dX4_findLatestStarts_4 : decode cX4_findLatestStarts 4 = .ok (.invokevirtual 45, 3) := by decide +kernel
theorem dX4_findLatestStarts_7 : decode cX4_findLatestStarts 7 = .ok (.iconst 1, 1) := by decide +kernel
theorem dX4_findLatestStarts_8 : decode cX4_findLatestStarts 8 = .ok (.isub, 1) := by decide +kernel
theorem dX4_findLatestStarts_9 : decode cX4_findLatestStarts 9 = .ok (.istore_n 1, 1) := by decide +kernel
theorem dX4_findLatestStarts_10 : decode cX4_findLatestStarts 10 = .ok (.iload_n 1, 1) := by decide +kernel
theorem dX4_findLatestStarts_11 : decode cX4_findLatestStarts 11 = .ok (.ifCond .lt 48, 3) := by decide +kernel
theorem dX4_findLatestStarts_14 : decode cX4_findLatestStarts 14 = .ok (.aload_n 0, 1) := by decide +kernel
theorem dX4_findLatestStarts_15 : decode cX4_findLatestStarts 15 = .ok (.getfield 28, 3) := by decide +kernel
theorem dX4_findLatestStarts_18 : decode cX4_findLatestStarts 18 = .ok (.iload_n 1, 1) := by decide +kernel
theorem dX4_findLatestStarts_19 : decode cX4_findLatestStarts 19 = .ok (.invokevirtual 72, 3) := by decide +kernel
theorem dX4_findLatestStarts_22 : decode cX4_findLatestStarts 22 = .ok (.checkcast 35, 3) := by decide +kernel
theorem dX4_findLatestStarts_25 : decode cX4_findLatestStarts 25 = .ok (.astore_n 2, 1) := by decide +kernel
theorem dX4_findLatestStarts_26 : decode cX4_findLatestStarts 26 = .ok (.aload_n 0, 1) := by decide +kernel
theorem dX4_findLatestStarts_27 : decode cX4_findLatestStarts 27 = .ok (.aload_n 2, 1) := by decide +kernel
theorem dX4_findLatestStarts_28 : decode cX4_findLatestStarts 28 = .ok (.invokevirtual 141, 3) := by decide +kernel
theorem dX4_findLatestStarts_31 : decode cX4_findLatestStarts 31 = .ok (.aload_n 2, 1) := by decide +kernel
theorem dX4_findLatestStarts_32 : decode cX4_findLatestStarts 32 = .ok (.getfield 120, 3) := by decide +kernel
theorem dX4_findLatestStarts_35 : decode cX4_findLatestStarts 35 = .ok (.isub, 1) := by decide +kernel
theorem dX4_findLatestStarts_36 : decode cX4_findLatestStarts 36 = .ok (.istore_n 3, 1) := by decide +kernel
theorem dX4_findLatestStarts_37 : decode cX4_findLatestStarts 37 = .ok (.aload_n 2, 1) := by decide +kernel
theorem dX4_findLatestStarts_38 : decode cX4_findLatestStarts 38 = .ok (.aload_n 2, 1) := by decide +kernel
theorem dX4_findLatestStarts_39 : decode cX4_findLatestStarts 39 = .ok (.getfield 34, 3) := by decide +kernel
theorem dX4_findLatestStarts_42 : decode cX4_findLatestStarts 42 = .ok (.iload_n 3, 1) := by decide +kernel
theorem dX4_findLatestStarts_43 : decode cX4_findLatestStarts 43 = .ok (.aload_n 2, 1) := by decide +kernel
theorem dX4_findLatestStarts_44 : decode cX4_findLatestStarts 44 = .ok (.getfield 120, 3) := by decide +kernel
theorem dX4_findLatestStarts_47 : decode cX4_findLatestStarts 47 = .ok (.invokevirtual 144, 3) := by decide +kernel
theorem dX4_findLatestStarts_50 : decode cX4_findLatestStarts 50 = .ok (.putfield 147, 3) := by decide +kernel
theorem dX4_findLatestStarts_53 : decode cX4_findLatestStarts 53 = .ok (.iinc 1 (-1), 3) := by decide +kernel
theorem dX4_findLatestStarts_56 : decode cX4_findLatestStarts 56 = .ok (.goto (-46), 3) := by decide +kernel
theorem dX4_findLatestStarts_59 : decode cX4_findLatestStarts 59 = .ok (.return_, 1) := by decide +kernel
theorem dX4_latestFinish_0 : decode cX4_latestFinish 0 = .ok (.aload_n 1, 1) := by decide +kernel
theorem dX4_latestFinish_1 : decode cX4_latestFinish 1 = .ok (.getfield 150, 3) := by decide +kernel
theorem dX4_latestFinish_4 : decode cX4_latestFinish 4 = .ok (.astore_n 2, 1) := by decide +kernel
theorem dX4_latestFinish_5 : decode cX4_latestFinish 5 = .ok (.aload_n 1, 1) := by decide +kernel
theorem dX4_latestFinish_6 : decode cX4_latestFinish 6 = .ok (.getfield 153, 3) := by decide +kernel
theorem dX4_latestFinish_9 : decode cX4_latestFinish 9 = .ok (.astore_n 3, 1) := by decide +kernel
theorem dX4_latestFinish_10 : decode cX4_latestFinish 10 = .ok (.aload_n 0, 1) := by decide +kernel
theorem dX4_latestFinish_11 : decode cX4_latestFinish 11 = .ok (.getfield 58, 3) := by decide +kernel
theorem dX4_latestFinish_14 : decode cX4_latestFinish 14 = .ok (.istore 4, 2) := by decide +kernel
theorem dX4_latestFinish_16 : decode cX4_latestFinish 16 = .ok (.aload_n 2, 1) := by decide +kernel
theorem dX4_latestFinish_17 : decode cX4_latestFinish 17 = .ok (.ifnull 14, 3) := by decide +kernel
theorem dX4_latestFinish_20 : decode cX4_latestFinish 20 = .ok (.iload 4, 2) := by decide +kernel
theorem dX4_latestFinish_22 : decode cX4_latestFinish 22 = .ok (.aload_n 2, 1) := by decide +kernel
theorem dX4_latestFinish_23 : decode cX4_latestFinish 23 = .ok (.getfield 147, 3) := by decide +kernel
theorem dX4_latestFinish_26 : decode cX4_latestFinish 26 = .ok (.invokestatic 156, 3) := by decide +kernel
theorem dX4_latestFinish_29 : decode cX4_latestFinish 29 = .ok (.istore 4, 2) := by decide +kernel
theorem dX4_latestFinish_31 : decode cX4_latestFinish 31 = .ok (.aload_n 3, 1) := by decide +kernel
theorem dX4_latestFinish_32 : decode cX4_latestFinish 32 = .ok (.ifnull 24, 3) := by decide +kernel
theorem dX4_latestFinish_35 : decode cX4_latestFinish 35 = .ok (.iload 4, 2) := by decide +kernel
theorem dX4_latestFinish_37 : decode cX4_latestFinish 37 = .ok (.aload_n 3, 1) := by decide +kernel
theorem dX4_latestFinish_38 : decode cX4_latestFinish 38 = .ok (.getfield 147, 3) := by decide +kernel
theorem dX4_latestFinish_41 : decode cX4_latestFinish 41 = .ok (.aload_n 0, 1) := by decide +kernel
theorem dX4_latestFinish_42 : decode cX4_latestFinish 42 = .ok (.getfield 24, 3) := by decide +kernel
theorem dX4_latestFinish_45 : decode cX4_latestFinish 45 = .ok (.aload_n 1, 1) := by decide +kernel
theorem dX4_latestFinish_46 : decode cX4_latestFinish 46 = .ok (.aload_n 3, 1) := by decide +kernel
theorem dX4_latestFinish_47 : decode cX4_latestFinish 47 = .ok (.invokevirtual 110, 3) := by decide +kernel
theorem dX4_latestFinish_50 : decode cX4_latestFinish 50 = .ok (.isub, 1) := by decide +kernel
theorem dX4_latestFinish_51 : decode cX4_latestFinish 51 = .ok (.invokestatic 156, 3) := by decide +kernel
theorem dX4_latestFinish_54 : decode cX4_latestFinish 54 = .ok (.istore 4, 2) := by decide +kernel
theorem dX4_latestFinish_56 : decode cX4_latestFinish 56 = .ok (.iload 4, 2) := by decide +kernel
theorem dX4_latestFinish_58 : decode cX4_latestFinish 58 = .ok (.ireturn, 1) := by decide +kernel
theorem dX4_findPath_0 : decode cX4_findPath 0 = .ok (.aload_n 0, 1) := by decide +kernel
theorem dX4_findPath_1 : decode cX4_findPath 1 = .ok (.getfield 31, 3) := by decide +kernel
theorem dX4_findPath_4 : decode cX4_findPath 4 = .ok (.invokevirtual 80, 3) := by decide +kernel
theorem dX4_findPath_7 : decode cX4_findPath 7 = .ok (.aload_n 0, 1) := by decide +kernel
theorem dX4_findPath_8 : decode cX4_findPath 8 = .ok (.invokevirtual 159, 3) := by decide +kernel
theorem dX4_findPath_11 : decode cX4_findPath 11 = .ok (.astore_n 1, 1) := by decide +kernel
theorem dX4_findPath_12 : decode cX4_findPath 12 = .ok (.iconst 0, 1) := by decide +kernel
theorem dX4_findPath_13 : decode cX4_findPath 13 = .ok (.istore_n 2, 1) := by decide +kernel
theorem dX4_findPath_14 : decode cX4_findPath 14 = .ok (.iload_n 2, 1) := by decide +kernel
theorem dX4_findPath_15 : decode cX4_findPath 15 = .ok (.bipush 32, 2) := by decide +kernel
theorem dX4_findPath_17 : decode cX4_findPath 17 = .ok (.if_icmp .ge 28, 3) := by decide +kernel
theorem dX4_findPath_20 : decode cX4_findPath 20 = .ok (.aload_n 1, 1) := by decide +kernel
theorem dX4_findPath_21 : decode cX4_findPath 21 = .ok (.ifnull 24, 3) := by decide +kernel
theorem dX4_findPath_24 : decode cX4_findPath 24 = .ok (.aload_n 0, 1) := by decide +kernel
theorem dX4_findPath_25 : decode cX4_findPath 25 = .ok (.getfield 31, 3) := by decide +kernel
theorem dX4_findPath_28 : decode cX4_findPath 28 = .ok (.aload_n 1, 1) := by decide +kernel
theorem dX4_findPath_29 : decode cX4_findPath 29 = .ok (.invokevirtual 126, 3) := by decide +kernel
theorem dX4_findPath_32 : decode cX4_findPath 32 = .ok (.pop, 1) := by decide +kernel
theorem dX4_findPath_33 : decode cX4_findPath 33 = .ok (.aload_n 0, 1) := by decide +kernel
theorem dX4_findPath_34 : decode cX4_findPath 34 = .ok (.aload_n 1, 1) := by decide +kernel
theorem dX4_findPath_35 : decode cX4_findPath 35 = .ok (.invokevirtual 163, 3) := by decide +kernel
theorem dX4_findPath_38 : decode cX4_findPath 38 = .ok (.astore_n 1, 1) := by decide +kernel
theorem dX4_findPath_39 : decode cX4_findPath 39 = .ok (.iinc 2 1, 3) := by decide +kernel
theorem dX4_findPath_42 : decode cX4_findPath 42 = .ok (.goto (-28), 3) := by decide +kernel
theorem dX4_findPath_45 : decode cX4_findPath 45 = .ok (.return_, 1) := by decide +kernel
theorem dX4_lastOfPath_0 : decode cX4_lastOfPath 0 = .ok (.iconst 0, 1) := by decide +kernel
theorem dX4_lastOfPath_1 : decode cX4_lastOfPath 1 = .ok (.istore_n 1, 1) := by decide +kernel
theorem dX4_lastOfPath_2 : decode cX4_lastOfPath 2 = .ok (.iload_n 1, 1) := by decide +kernel
theorem dX4_lastOfPath_3 : decode cX4_lastOfPath 3 = .ok (.aload_n 0, 1) := by decide +kernel
theorem dX4_lastOfPath_4 : decode cX4_lastOfPath 4 = .ok (.getfield 18, 3) := by decide +kernel
theorem dX4_lastOfPath_7 : decode cX4_lastOfPath 7 = .ok (.invokevirtual 45, 3) := by decide +kernel
theorem dX4_lastOfPath_10 : decode cX4_lastOfPath 10 = .ok (.if_icmp .ge 80, 3) := by decide +kernel
theorem dX4_lastOfPath_13 : decode cX4_lastOfPath 13 = .ok (.aload_n 0, 1) := by decide +kernel
theorem dX4_lastOfPath_14 : decode cX4_lastOfPath 14 = .ok (.getfield 18, 3) := by decide +kernel
theorem dX4_lastOfPath_17 : decode cX4_lastOfPath 17 = .ok (.iload_n 1, 1) := by decide +kernel
theorem dX4_lastOfPath_18 : decode cX4_lastOfPath 18 = .ok (.invokevirtual 72, 3) := by decide +kernel
theorem dX4_lastOfPath_21 : decode cX4_lastOfPath 21 = .ok (.checkcast 83, 3) := by decide +kernel
theorem dX4_lastOfPath_24 : decode cX4_lastOfPath 24 = .ok (.astore_n 2, 1) := by decide +kernel
theorem dX4_lastOfPath_25 : decode cX4_lastOfPath 25 = .ok (.iconst 0, 1) := by decide +kernel
theorem dX4_lastOfPath_26 : decode cX4_lastOfPath 26 = .ok (.istore_n 3, 1) := by decide +kernel
theorem dX4_lastOfPath_27 : decode cX4_lastOfPath 27 = .ok (.aload_n 2, 1) := by decide +kernel
theorem dX4_lastOfPath_28 : decode cX4_lastOfPath 28 = .ok (.getfield 167, 3) := by decide +kernel
theorem dX4_lastOfPath_31 : decode cX4_lastOfPath 31 = .ok (.ifCond .eq 53, 3) := by decide +kernel
theorem dX4_lastOfPath_34 : decode cX4_lastOfPath 34 = .ok (.iload_n 3, 1) := by decide +kernel
theorem dX4_lastOfPath_35 : decode cX4_lastOfPath 35 = .ok (.aload_n 2, 1) := by decide +kernel
theorem dX4_lastOfPath_36 : decode cX4_lastOfPath 36 = .ok (.getfield 171, 3) := by decide +kernel
theorem dX4_lastOfPath_39 : decode cX4_lastOfPath 39 = .ok (.invokevirtual 45, 3) := by decide +kernel
theorem dX4_lastOfPath_42 : decode cX4_lastOfPath 42 = .ok (.if_icmp .ge 42, 3) := by decide +kernel
theorem dX4_lastOfPath_45 : decode cX4_lastOfPath 45 = .ok (.aload_n 2, 1) := by decide +kernel
theorem dX4_lastOfPath_46 : decode cX4_lastOfPath 46 = .ok (.getfield 171, 3) := by decide +kernel
theorem dX4_lastOfPath_49 : decode cX4_lastOfPath 49 = .ok (.iload_n 3, 1) := by decide +kernel
theorem dX4_lastOfPath_50 : decode cX4_lastOfPath 50 = .ok (.invokevirtual 72, 3) := by decide +kernel
theorem dX4_lastOfPath_53 : decode cX4_lastOfPath 53 = .ok (.checkcast 35, 3) := by decide +kernel
theorem dX4_lastOfPath_56 : decode cX4_lastOfPath 56 = .ok (.getfield 107, 3) := by decide +kernel
theorem dX4_lastOfPath_59 : decode cX4_lastOfPath 59 = .ok (.aload_n 0, 1) := by decide +kernel
theorem dX4_lastOfPath_60 : decode cX4_lastOfPath 60 = .ok (.getfield 58, 3) := by decide +kernel
theorem dX4_lastOfPath_63 : decode cX4_lastOfPath 63 = .ok (.if_icmp .ne 15, 3) := by decide +kernel
theorem dX4_lastOfPath_66 : decode cX4_lastOfPath 66 = .ok (.aload_n 2, 1) := by decide +kernel
theorem dX4_lastOfPath_67 : decode cX4_lastOfPath 67 = .ok (.getfield 171, 3) := by decide +kernel
theorem dX4_lastOfPath_70 : decode cX4_lastOfPath 70 = .ok (.iload_n 3, 1) := by decide +kernel
theorem dX4_lastOfPath_71 : decode cX4_lastOfPath 71 = .ok (.invokevirtual 72, 3) := by decide +kernel
theorem dX4_lastOfPath_74 : decode cX4_lastOfPath 74 = .ok (.checkcast 35, 3) := by decide +kernel
theorem dX4_lastOfPath_77 : decode cX4_lastOfPath 77 = .ok (.areturn, 1) := by decide +kernel
theorem dX4_lastOfPath_78 : decode cX4_lastOfPath 78 = .ok (.iinc 3 1, 3) := by decide +kernel
theorem dX4_lastOfPath_81 : decode cX4_lastOfPath 81 = .ok (.goto (-54), 3) := by decide +kernel
theorem dX4_lastOfPath_84 : decode cX4_lastOfPath 84 = .ok (.iinc 1 1, 3) := by decide +kernel
theorem dX4_lastOfPath_87 : decode cX4_lastOfPath 87 = .ok (.goto (-85), 3) := by decide +kernel
theorem dX4_lastOfPath_90 : decode cX4_lastOfPath 90 = .ok (.aconst_null, 1) := by decide +kernel
theorem dX4_lastOfPath_91 : decode cX4_lastOfPath 91 = .ok (.areturn, 1) := by decide +kernel
theorem dX4_aheadOnPath_0 : decode cX4_aheadOnPath 0 = .ok (.aload_n 1, 1) := by decide +kernel
theorem dX4_aheadOnPath_1 : decode cX4_aheadOnPath 1 = .ok (.getfield 100, 3) := by decide +kernel
theorem dX4_aheadOnPath_4 : decode cX4_aheadOnPath 4 = .ok (.astore_n 2, 1) := by decide +kernel
theorem dX4_aheadOnPath_5 : decode cX4_aheadOnPath 5 = .ok (.aload_n 1, 1) := by decide +kernel
theorem dX4_aheadOnPath_6 : decode cX4_aheadOnPath 6 = .ok (.getfield 104, 3) := by decide +kernel
theorem dX4_aheadOnPath_9 : decode cX4_aheadOnPath 9 = .ok (.astore_n 3, 1) := by decide +kernel
theorem dX4_aheadOnPath_10 : decode cX4_aheadOnPath 10 = .ok (.aload_n 2, 1) := by decide +kernel
theorem dX4_aheadOnPath_11 : decode cX4_aheadOnPath 11 = .ok (.ifnull 16, 3) := by decide +kernel
theorem dX4_aheadOnPath_14 : decode cX4_aheadOnPath 14 = .ok (.aload_n 2, 1) := by decide +kernel
theorem dX4_aheadOnPath_15 : decode cX4_aheadOnPath 15 = .ok (.getfield 107, 3) := by decide +kernel
theorem dX4_aheadOnPath_18 : decode cX4_aheadOnPath 18 = .ok (.aload_n 1, 1) := by decide +kernel
theorem dX4_aheadOnPath_19 : decode cX4_aheadOnPath 19 = .ok (.getfield 62, 3) := by decide +kernel
theorem dX4_aheadOnPath_22 : decode cX4_aheadOnPath 22 = .ok (.if_icmp .ne 5, 3) := by decide +kernel
theorem dX4_aheadOnPath_25 : decode cX4_aheadOnPath 25 = .ok (.aload_n 2, 1) := by decide +kernel
theorem dX4_aheadOnPath_26 : decode cX4_aheadOnPath 26 = .ok (.areturn, 1) := by decide +kernel
theorem dX4_aheadOnPath_27 : decode cX4_aheadOnPath 27 = .ok (.aload_n 3, 1) := by decide +kernel
theorem dX4_aheadOnPath_28 : decode cX4_aheadOnPath 28 = .ok (.ifnull 26, 3) := by decide +kernel
theorem dX4_aheadOnPath_31 : decode cX4_aheadOnPath 31 = .ok (.aload_n 3, 1) := by decide +kernel
theorem dX4_aheadOnPath_32 : decode cX4_aheadOnPath 32 = .ok (.getfield 107, 3) := by decide +kernel
theorem dX4_aheadOnPath_35 : decode cX4_aheadOnPath 35 = .ok (.aload_n 0, 1) := by decide +kernel
theorem dX4_aheadOnPath_36 : decode cX4_aheadOnPath 36 = .ok (.getfield 24, 3) := by decide +kernel
theorem dX4_aheadOnPath_39 : decode cX4_aheadOnPath 39 = .ok (.aload_n 3, 1) := by decide +kernel
theorem dX4_aheadOnPath_40 : decode cX4_aheadOnPath 40 = .ok (.aload_n 1, 1) := by decide +kernel
theorem dX4_aheadOnPath_41 : decode cX4_aheadOnPath 41 = .ok (.invokevirtual 110, 3) := by decide +kernel
theorem dX4_aheadOnPath_44 : decode cX4_aheadOnPath 44 = .ok (.iadd, 1) := by decide +kernel
theorem dX4_aheadOnPath_45 : decode cX4_aheadOnPath 45 = .ok (.aload_n 1, 1) := by decide +kernel
theorem dX4_aheadOnPath_46 : decode cX4_aheadOnPath 46 = .ok (.getfield 62, 3) := by decide +kernel
theorem dX4_aheadOnPath_49 : decode cX4_aheadOnPath 49 = .ok (.if_icmp .ne 5, 3) := by decide +kernel
theorem dX4_aheadOnPath_52 : decode cX4_aheadOnPath 52 = .ok (.aload_n 3, 1) := by decide +kernel
theorem dX4_aheadOnPath_53 : decode cX4_aheadOnPath 53 = .ok (.areturn, 1) := by decide +kernel
theorem dX4_aheadOnPath_54 : decode cX4_aheadOnPath 54 = .ok (.aconst_null, 1) := by decide +kernel
theorem dX4_aheadOnPath_55 : decode cX4_aheadOnPath 55 = .ok (.areturn, 1) := by decide +kernel
theorem dX5_init_0 : decode cX5_init 0 = .ok (.aload_n 0, 1) := by decide +kernel
theorem dX5_init_1 : decode cX5_init 1 = .ok (.invokespecial 3, 3) := by decide +kernel
theorem dX5_init_4 : decode cX5_init 4 = .ok (.aload_n 0, 1) := by decide +kernel
theorem dX5_init_5 : decode cX5_init 5 = .ok (.new 9, 3) := by decide +kernel
theorem dX5_init_8 : decode cX5_init 8 = .ok (.dup, 1) := by decide +kernel
theorem dX5_init_9 : decode cX5_init 9 = .ok (.invokespecial 11, 3) := by decide +kernel
theorem dX5_init_12 : decode cX5_init 12 = .ok (.putfield 12, 3) := by decide +kernel
theorem dX5_init_15 : decode cX5_init 15 = .ok (.return_, 1) := by decide +kernel
theorem dX5_addMachine_0 : decode cX5_addMachine 0 = .ok (.aload_n 0, 1) := by decide +kernel
theorem dX5_addMachine_1 : decode cX5_addMachine 1 = .ok (.getfield 12, 3) := by decide +kernel
theorem dX5_addMachine_4 : decode cX5_addMachine 4 = .ok (.getfield 16, 3) := by decide +kernel
theorem dX5_addMachine_7 : decode cX5_addMachine 7 = .ok (.invokevirtual 20, 3) := by decide +kernel
theorem dX5_addMachine_10 : decode cX5_addMachine 10 = .ok (.iconst 4, 1) := by decide +kernel
theorem dX5_addMachine_11 : decode cX5_addMachine 11 = .ok (.if_icmp .lt 13, 3) := by decide +kernel
theorem dX5_addMachine_14 : decode cX5_addMachine 14 = .ok (.new 26, 3) := by decide +kernel
theorem dX5_addMachine_17 : decode cX5_addMachine 17 = .ok (.dup, 1) := by decide +kernel
theorem dX5_addMachine_18 : decode cX5_addMachine 18 = .ok (.ldc 28, 2) := by decide +kernel
theorem dX5_addMachine_20 : decode cX5_addMachine 20 = .ok (.invokespecial 30, 3) := by decide +kernel
theorem dX5_addMachine_23 : decode cX5_addMachine 23 = .ok (.athrow, 1) := by decide +kernel
theorem dX5_addMachine_24 : decode cX5_addMachine 24 = .ok (.aload_n 0, 1) := by decide +kernel
theorem dX5_addMachine_25 : decode cX5_addMachine 25 = .ok (.getfield 12, 3) := by decide +kernel
theorem dX5_addMachine_28 : decode cX5_addMachine 28 = .ok (.getfield 16, 3) := by decide +kernel
theorem dX5_addMachine_31 : decode cX5_addMachine 31 = .ok (.new 33, 3) := by decide +kernel
theorem dX5_addMachine_34 : decode cX5_addMachine 34 = .ok (.dup, 1) := by decide +kernel
theorem dX5_addMachine_35 : decode cX5_addMachine 35 = .ok (.invokespecial 35, 3) := by decide +kernel
theorem dX5_addMachine_38 : decode cX5_addMachine 38 = .ok (.invokevirtual 36, 3) := by decide +kernel
theorem dX5_addMachine_41 : decode cX5_addMachine 41 = .ok (.pop, 1) := by decide +kernel
theorem dX5_addMachine_42 : decode cX5_addMachine 42 = .ok (.aload_n 0, 1) := by decide +kernel
theorem dX5_addMachine_43 : decode cX5_addMachine 43 = .ok (.getfield 12, 3) := by decide +kernel
theorem dX5_addMachine_46 : decode cX5_addMachine 46 = .ok (.getfield 16, 3) := by decide +kernel
theorem dX5_addMachine_49 : decode cX5_addMachine 49 = .ok (.invokevirtual 20, 3) := by decide +kernel
theorem dX5_addMachine_52 : decode cX5_addMachine 52 = .ok (.iconst 1, 1) := by decide +kernel
theorem dX5_addMachine_53 : decode cX5_addMachine 53 = .ok (.isub, 1) := by decide +kernel
theorem dX5_addMachine_54 : decode cX5_addMachine 54 = .ok (.ireturn, 1) := by decide +kernel
theorem dX5_setMagazine_0 : decode cX5_setMagazine 0 = .ok (.aload_n 0, 1) := by decide +kernel
theorem dX5_setMagazine_1 : decode cX5_setMagazine 1 = .ok (.iload_n 1, 1) := by decide +kernel
theorem dX5_setMagazine_2 : decode cX5_setMagazine 2 = .ok (.invokevirtual 40, 3) := by decide +kernel
theorem dX5_setMagazine_5 : decode cX5_setMagazine 5 = .ok (.astore_n 3, 1) := by decide +kernel
theorem dX5_setMagazine_6 : decode cX5_setMagazine 6 = .ok (.iload_n 2, 1) := by decide +kernel
theorem dX5_setMagazine_7 : decode cX5_setMagazine 7 = .ok (.iconst 1, 1) := by decide +kernel
theorem dX5_setMagazine_8 : decode cX5_setMagazine 8 = .ok (.if_icmp .lt 9, 3) := by decide +kernel
theorem dX5_setMagazine_11 : decode cX5_setMagazine 11 = .ok (.iload_n 2, 1) := by decide +kernel
theorem dX5_setMagazine_12 : decode cX5_setMagazine 12 = .ok (.bipush 8, 2) := by decide +kernel
theorem dX5_setMagazine_14 : decode cX5_setMagazine 14 = .ok (.if_icmp .le 13, 3) := by decide +kernel
theorem dX5_setMagazine_17 : decode cX5_setMagazine 17 = .ok (.new 44, 3) := by decide +kernel
theorem dX5_setMagazine_20 : decode cX5_setMagazine 20 = .ok (.dup, 1) := by decide +kernel
theorem dX5_setMagazine_21 : decode cX5_setMagazine 21 = .ok (.ldc 46, 2) := by decide +kernel
theorem dX5_setMagazine_23 : decode cX5_setMagazine 23 = .ok (.invokespecial 48, 3) := by decide +kernel
theorem dX5_setMagazine_26 : decode cX5_setMagazine 26 = .ok (.athrow, 1) := by decide +kernel
theorem dX5_setMagazine_27 : decode cX5_setMagazine 27 = .ok (.iload_n 2, 1) := by decide +kernel
theorem dX5_setMagazine_28 : decode cX5_setMagazine 28 = .ok (.aload_n 3, 1) := by decide +kernel
theorem dX5_setMagazine_29 : decode cX5_setMagazine 29 = .ok (.getfield 49, 3) := by decide +kernel
theorem dX5_setMagazine_32 : decode cX5_setMagazine 32 = .ok (.if_icmp .ge 13, 3) := by decide +kernel
theorem dX5_setMagazine_35 : decode cX5_setMagazine 35 = .ok (.new 26, 3) := by decide +kernel
theorem dX5_setMagazine_38 : decode cX5_setMagazine 38 = .ok (.dup, 1) := by decide +kernel
theorem dX5_setMagazine_39 : decode cX5_setMagazine 39 = .ok (.ldc 53, 2) := by decide +kernel
theorem dX5_setMagazine_41 : decode cX5_setMagazine 41 = .ok (.invokespecial 30, 3) := by decide +kernel
theorem dX5_setMagazine_44 : decode cX5_setMagazine 44 = .ok (.athrow, 1) := by decide +kernel
theorem dX5_setMagazine_45 : decode cX5_setMagazine 45 = .ok (.aload_n 3, 1) := by decide +kernel
theorem dX5_setMagazine_46 : decode cX5_setMagazine 46 = .ok (.getfield 55, 3) := by decide +kernel
theorem dX5_setMagazine_49 : decode cX5_setMagazine 49 = .ok (.istore 4, 2) := by decide +kernel
theorem dX5_setMagazine_51 : decode cX5_setMagazine 51 = .ok (.aload_n 3, 1) := by decide +kernel
theorem dX5_setMagazine_52 : decode cX5_setMagazine 52 = .ok (.iload_n 2, 1) := by decide +kernel
theorem dX5_setMagazine_53 : decode cX5_setMagazine 53 = .ok (.putfield 55, 3) := by decide +kernel
theorem dX5_setMagazine_56 : decode cX5_setMagazine 56 = .ok (.iload 4, 2) := by decide +kernel
theorem dX5_setMagazine_58 : decode cX5_setMagazine 58 = .ok (.ireturn, 1) := by decide +kernel
theorem dX5_breakdown_0 : decode cX5_breakdown 0 = .ok (.aload_n 0, 1) := by decide +kernel
theorem dX5_breakdown_1 : decode cX5_breakdown 1 = .ok (.iload_n 1, 1) := by decide +kernel
theorem dX5_breakdown_2 : decode cX5_breakdown 2 = .ok (.invokevirtual 40, 3) := by decide +kernel
theorem dX5_breakdown_5 : decode cX5_breakdown 5 = .ok (.astore 4, 2) := by decide +kernel
theorem dX5_breakdown_7 : decode cX5_breakdown 7 = .ok (.iload_n 2, 1) := by decide +kernel
theorem dX5_breakdown_8 : decode cX5_breakdown 8 = .ok (.ifCond .lt 10, 3) := by decide +kernel
theorem dX5_breakdown_11 : decode cX5_breakdown 11 = .ok (.iload_n 2, 1) := by decide +kernel
theorem dX5_breakdown_12 : decode cX5_breakdown 12 = .ok (.sipush 10000, 3) := by decide +kernel
theorem dX5_breakdown_15 : decode cX5_breakdown 15 = .ok (.if_icmp .lt 13, 3) := by decide +kernel
theorem dX5_breakdown_18 : decode cX5_breakdown 18 = .ok (.new 44, 3) := by decide +kernel
theorem dX5_breakdown_21 : decode cX5_breakdown 21 = .ok (.dup, 1) := by decide +kernel
theorem dX5_breakdown_22 : decode cX5_breakdown 22 = .ok (.ldc 58, 2) := by decide +kernel
theorem dX5_breakdown_24 : decode cX5_breakdown 24 = .ok (.invokespecial 48, 3) := by decide +kernel
theorem dX5_breakdown_27 : decode cX5_breakdown 27 = .ok (.athrow, 1) := by decide +kernel
theorem dX5_breakdown_28 : decode cX5_breakdown 28 = .ok (.iload_n 3, 1) := by decide +kernel
theorem dX5_breakdown_29 : decode cX5_breakdown 29 = .ok (.iload_n 2, 1) := by decide +kernel
theorem dX5_breakdown_30 : decode cX5_breakdown 30 = .ok (.if_icmp .le 10, 3) := by decide +kernel
theorem dX5_breakdown_33 : decode cX5_breakdown 33 = .ok (.iload_n 3, 1) := by decide +kernel
theorem dX5_breakdown_34 : decode cX5_breakdown 34 = .ok (.sipush 10000, 3) := by decide +kernel
theorem dX5_breakdown_37 : decode cX5_breakdown 37 = .ok (.if_icmp .le 13, 3) := by decide +kernel
theorem dX5_breakdown_40 : decode cX5_breakdown 40 = .ok (.new 44, 3) := by decide +kernel
theorem dX5_breakdown_43 : decode cX5_breakdown 43 = .ok (.dup, 1) := by decide +kernel
theorem dX5_breakdown_44 : decode cX5_breakdown 44 = .ok (.ldc 60, 2) := by decide +kernel
theorem dX5_breakdown_46 : decode cX5_breakdown 46 = .ok (.invokespecial 48, 3) := by decide +kernel
theorem dX5_breakdown_49 : decode cX5_breakdown 49 = .ok (.athrow, 1) := by decide +kernel
theorem dX5_breakdown_50 : decode cX5_breakdown 50 = .ok (.aload 4, 2) := by decide +kernel
theorem dX5_breakdown_52 : decode cX5_breakdown 52 = .ok (.iconst 1, 1) := by decide +kernel
theorem dX5_breakdown_53 : decode cX5_breakdown 53 = .ok (.putfield 62, 3) := by decide +kernel
theorem dX5_breakdown_56 : decode cX5_breakdown 56 = .ok (.aload 4, 2) := by decide +kernel
theorem dX5_breakdown_58 : decode cX5_breakdown 58 = .ok (.iload_n 2, 1) := by decide +kernel
theorem dX5_breakdown_59 : decode cX5_breakdown 59 = .ok (.putfield 66, 3) := by decide +kernel
theorem dX5_breakdown_62 : decode cX5_breakdown 62 = .ok (.aload 4, 2) := by decide +kernel
theorem dX5_breakdown_64 : decode cX5_breakdown 64 = .ok (.iload_n 3, 1) := by decide +kernel
theorem dX5_breakdown_65 : decode cX5_breakdown 65 = .ok (.putfield 69, 3) := by decide +kernel
theorem dX5_breakdown_68 : decode cX5_breakdown 68 = .ok (.aload_n 0, 1) := by decide +kernel
theorem dX5_breakdown_69 : decode cX5_breakdown 69 = .ok (.getfield 12, 3) := by decide +kernel
theorem dX5_breakdown_72 : decode cX5_breakdown 72 = .ok (.invokevirtual 72, 3) := by decide +kernel
theorem dX5_breakdown_75 : decode cX5_breakdown 75 = .ok (.pop, 1) := by decide +kernel
theorem dX5_breakdown_76 : decode cX5_breakdown 76 = .ok (.aload_n 0, 1) := by decide +kernel
theorem dX5_breakdown_77 : decode cX5_breakdown 77 = .ok (.getfield 12, 3) := by decide +kernel
theorem dX5_breakdown_80 : decode cX5_breakdown 80 = .ok (.getfield 76, 3) := by decide +kernel
theorem dX5_breakdown_83 : decode cX5_breakdown 83 = .ok (.ireturn, 1) := by decide +kernel
theorem dX5_repair_0 : decode cX5_repair 0 = .ok (.aload_n 0, 1) := by decide +kernel
theorem dX5_repair_1 : decode cX5_repair 1 = .ok (.iload_n 1, 1) := by decide +kernel
theorem dX5_repair_2 : decode cX5_repair 2 = .ok (.invokevirtual 40, 3) := by decide +kernel
theorem dX5_repair_5 : decode cX5_repair 5 = .ok (.astore_n 2, 1) := by decide +kernel
theorem dX5_repair_6 : decode cX5_repair 6 = .ok (.aload_n 2, 1) := by decide +kernel
theorem dX5_repair_7 : decode cX5_repair 7 = .ok (.getfield 62, 3) := by decide +kernel
theorem dX5_repair_10 : decode cX5_repair 10 = .ok (.istore_n 3, 1) := by decide +kernel
theorem dX5_repair_11 : decode cX5_repair 11 = .ok (.aload_n 2, 1) := by decide +kernel
theorem dX5_repair_12 : decode cX5_repair 12 = .ok (.iconst 0, 1) := by decide +kernel
theorem dX5_repair_13 : decode cX5_repair 13 = .ok (.putfield 62, 3) := by decide +kernel
theorem dX5_repair_16 : decode cX5_repair 16 = .ok (.aload_n 0, 1) := by decide +kernel
theorem dX5_repair_17 : decode cX5_repair 17 = .ok (.getfield 12, 3) := by decide +kernel
theorem dX5_repair_20 : decode cX5_repair 20 = .ok (.invokevirtual 72, 3) := by decide +kernel
theorem dX5_repair_23 : decode cX5_repair 23 = .ok (.pop, 1) := by decide +kernel
theorem dX5_repair_24 : decode cX5_repair 24 = .ok (.iload_n 3, 1) := by decide +kernel
theorem dX5_repair_25 : decode cX5_repair 25 = .ok (.ireturn, 1) := by decide +kernel
theorem dX5_addJob_0 : decode cX5_addJob 0 = .ok (.iload_n 1, 1) := by decide +kernel
theorem dX5_addJob_1 : decode cX5_addJob 1 = .ok (.ifCond .lt 10, 3) := by decide +kernel
theorem dX5_addJob_4 : decode cX5_addJob 4 = .ok (.iload_n 1, 1) := by decide +kernel
theorem dX5_addJob_5 : decode cX5_addJob 5 = .ok (.sipush 10000, 3) := by decide +kernel
theorem dX5_addJob_8 : decode cX5_addJob 8 = .ok (.if_icmp .le 13, 3) := by decide +kernel
theorem dX5_addJob_11 : decode cX5_addJob 11 = .ok (.new 44, 3) := by decide +kernel
theorem dX5_addJob_14 : decode cX5_addJob 14 = .ok (.dup, 1) := by decide +kernel
theorem dX5_addJob_15 : decode cX5_addJob 15 = .ok (.ldc 79, 2) := by decide +kernel
theorem dX5_addJob_17 : decode cX5_addJob 17 = .ok (.invokespecial 48, 3) := by decide +kernel
theorem dX5_addJob_20 : decode cX5_addJob 20 = .ok (.athrow, 1) := by decide +kernel
theorem dX5_addJob_21 : decode cX5_addJob 21 = .ok (.aload_n 0, 1) := by decide +kernel
theorem dX5_addJob_22 : decode cX5_addJob 22 = .ok (.getfield 12, 3) := by decide +kernel
theorem dX5_addJob_25 : decode cX5_addJob 25 = .ok (.getfield 81, 3) := by decide +kernel
theorem dX5_addJob_28 : decode cX5_addJob 28 = .ok (.invokevirtual 20, 3) := by decide +kernel
theorem dX5_addJob_31 : decode cX5_addJob 31 = .ok (.bipush 8, 2) := by decide +kernel
theorem dX5_addJob_33 : decode cX5_addJob 33 = .ok (.if_icmp .lt 13, 3) := by decide +kernel
theorem dX5_addJob_36 : decode cX5_addJob 36 = .ok (.new 26, 3) := by decide +kernel
theorem dX5_addJob_39 : decode cX5_addJob 39 = .ok (.dup, 1) := by decide +kernel
theorem dX5_addJob_40 : decode cX5_addJob 40 = .ok (.ldc 84, 2) := by decide +kernel
theorem dX5_addJob_42 : decode cX5_addJob 42 = .ok (.invokespecial 30, 3) := by decide +kernel
theorem dX5_addJob_45 : decode cX5_addJob 45 = .ok (.athrow, 1) := by decide +kernel
theorem dX5_addJob_46 : decode cX5_addJob 46 = .ok (.aload_n 0, 1) := by decide +kernel
theorem dX5_addJob_47 : decode cX5_addJob 47 = .ok (.getfield 12, 3) := by decide +kernel
theorem dX5_addJob_50 : decode cX5_addJob 50 = .ok (.getfield 81, 3) := by decide +kernel
theorem dX5_addJob_53 : decode cX5_addJob 53 = .ok (.new 86, 3) := by decide +kernel
theorem dX5_addJob_56 : decode cX5_addJob 56 = .ok (.dup, 1) := by decide +kernel
theorem dX5_addJob_57 : decode cX5_addJob 57 = .ok (.aload_n 0, 1) := by decide +kernel
theorem dX5_addJob_58 : decode cX5_addJob 58 = .ok (.getfield 12, 3) := by decide +kernel
theorem dX5_addJob_61 : decode cX5_addJob 61 = .ok (.getfield 81, 3) := by decide +kernel
theorem dX5_addJob_64 : decode cX5_addJob 64 = .ok (.invokevirtual 20, 3) := by decide +kernel
theorem dX5_addJob_67 : decode cX5_addJob 67 = .ok (.iload_n 1, 1) := by decide +kernel
theorem dX5_addJob_68 : decode cX5_addJob 68 = .ok (.invokespecial 88, 3) := by decide +kernel
theorem dX5_addJob_71 : decode cX5_addJob 71 = .ok (.invokevirtual 36, 3) := by decide +kernel
theorem dX5_addJob_74 : decode cX5_addJob 74 = .ok (.pop, 1) := by decide +kernel
theorem dX5_addJob_75 : decode cX5_addJob 75 = .ok (.aload_n 0, 1) := by decide +kernel
theorem dX5_addJob_76 : decode cX5_addJob 76 = .ok (.getfield 12, 3) := by decide +kernel
theorem dX5_addJob_79 : decode cX5_addJob 79 = .ok (.getfield 81, 3) := by decide +kernel
theorem dX5_addJob_82 : decode cX5_addJob 82 = .ok (.invokevirtual 20, 3) := by decide +kernel
theorem dX5_addJob_85 : decode cX5_addJob 85 = .ok (.iconst 1, 1) := by decide +kernel
theorem dX5_addJob_86 : decode cX5_addJob 86 = .ok (.isub, 1) := by decide +kernel
theorem dX5_addJob_87 : decode cX5_addJob 87 = .ok (.ireturn, 1) := by decide +kernel
theorem dX5_addOperation_0 : decode cX5_addOperation 0 = .ok (.aload_n 0, 1) := by decide +kernel
theorem dX5_addOperation_1 : decode cX5_addOperation 1 = .ok (.iload_n 1, 1) := by decide +kernel
theorem dX5_addOperation_2 : decode cX5_addOperation 2 = .ok (.invokevirtual 91, 3) := by decide +kernel
theorem dX5_addOperation_5 : decode cX5_addOperation 5 = .ok (.astore 6, 2) := by decide +kernel
theorem dX5_addOperation_7 : decode cX5_addOperation 7 = .ok (.aload_n 0, 1) := by decide +kernel
theorem dX5_addOperation_8 : decode cX5_addOperation 8 = .ok (.iload_n 2, 1) := by decide +kernel
theorem dX5_addOperation_9 : decode cX5_addOperation 9 = .ok (.invokevirtual 40, 3) := by decide +kernel
theorem dX5_addOperation_12 : decode cX5_addOperation 12 = .ok (.astore 7, 2) := by decide +kernel
theorem dX5_addOperation_14 : decode cX5_addOperation 14 = .ok (.iload_n 3, 1) := by decide +kernel
theorem dX5_addOperation_15 : decode cX5_addOperation 15 = .ok (.iconst 1, 1) := by decide +kernel
theorem dX5_addOperation_16 : decode cX5_addOperation 16 = .ok (.if_icmp .lt 10, 3) := by decide +kernel
theorem dX5_addOperation_19 : decode cX5_addOperation 19 = .ok (.iload_n 3, 1) := by decide +kernel
theorem dX5_addOperation_20 : decode cX5_addOperation 20 = .ok (.sipush 200, 3) := by decide +kernel
theorem dX5_addOperation_23 : decode cX5_addOperation 23 = .ok (.if_icmp .le 13, 3) := by decide +kernel
theorem dX5_addOperation_26 : decode cX5_addOperation 26 = .ok (.new 44, 3) := by decide +kernel
theorem dX5_addOperation_29 : decode cX5_addOperation 29 = .ok (.dup, 1) := by decide +kernel
theorem dX5_addOperation_30 : decode cX5_addOperation 30 = .ok (.ldc 95, 2) := by decide +kernel
theorem dX5_addOperation_32 : decode cX5_addOperation 32 = .ok (.invokespecial 48, 3) := by decide +kernel
theorem dX5_addOperation_35 : decode cX5_addOperation 35 = .ok (.athrow, 1) := by decide +kernel
theorem dX5_addOperation_36 : decode cX5_addOperation 36 = .ok (.iload 4, 2) := by decide +kernel
theorem dX5_addOperation_38 : decode cX5_addOperation 38 = .ok (.ifCond .lt 9, 3) := by decide +kernel
theorem dX5_addOperation_41 : decode cX5_addOperation 41 = .ok (.iload 4, 2) := by decide +kernel
theorem dX5_addOperation_43 : decode cX5_addOperation 43 = .ok (.iconst 4, 1) := by decide +kernel
theorem dX5_addOperation_44 : decode cX5_addOperation 44 = .ok (.if_icmp .lt 13, 3) := by decide +kernel
theorem dX5_addOperation_47 : decode cX5_addOperation 47 = .ok (.new 44, 3) := by decide +kernel
theorem dX5_addOperation_50 : decode cX5_addOperation 50 = .ok (.dup, 1) := by decide +kernel
theorem dX5_addOperation_51 : decode cX5_addOperation 51 = .ok (.ldc 97, 2) := by decide +kernel
theorem dX5_addOperation_53 : decode cX5_addOperation 53 = .ok (.invokespecial 48, 3) := by decide +kernel
theorem dX5_addOperation_56 : decode cX5_addOperation 56 = .ok (.athrow, 1) := by decide +kernel
theorem dX5_addOperation_57 : decode cX5_addOperation 57 = .ok (.iload 5, 2) := by decide +kernel
theorem dX5_addOperation_59 : decode cX5_addOperation 59 = .ok (.ifCond .lt 11, 3) := by decide +kernel
theorem dX5_addOperation_62 : decode cX5_addOperation 62 = .ok (.iload 5, 2) := by decide +kernel
theorem dX5_addOperation_64 : decode cX5_addOperation 64 = .ok (.sipush 255, 3) := by decide +kernel
theorem dX5_addOperation_67 : decode cX5_addOperation 67 = .ok (.if_icmp .le 13, 3) := by decide +kernel
theorem dX5_addOperation_70 : decode cX5_addOperation 70 = .ok (.new 44, 3) := by decide +kernel
theorem dX5_addOperation_73 : decode cX5_addOperation 73 = .ok (.dup, 1) := by decide +kernel
theorem dX5_addOperation_74 : decode cX5_addOperation 74 = .ok (.ldc 99, 2) := by decide +kernel
theorem dX5_addOperation_76 : decode cX5_addOperation 76 = .ok (.invokespecial 48, 3) := by decide +kernel
theorem dX5_addOperation_79 : decode cX5_addOperation 79 = .ok (.athrow, 1) := by decide +kernel
theorem dX5_addOperation_80 : decode cX5_addOperation 80 = .ok (.aload 6, 2) := by decide +kernel
theorem dX5_addOperation_82 : decode cX5_addOperation 82 = .ok (.getfield 101, 3) := by decide +kernel
theorem dX5_addOperation_85 : decode cX5_addOperation 85 = .ok (.invokevirtual 20, 3) := by decide +kernel
theorem dX5_addOperation_88 : decode cX5_addOperation 88 = .ok (.iconst 4, 1) := by decide +kernel
theorem dX5_addOperation_89 : decode cX5_addOperation 89 = .ok (.if_icmp .lt 13, 3) := by decide +kernel
theorem dX5_addOperation_92 : decode cX5_addOperation 92 = .ok (.new 26, 3) := by decide +kernel
theorem dX5_addOperation_95 : decode cX5_addOperation 95 = .ok (.dup, 1) := by decide +kernel
theorem dX5_addOperation_96 : decode cX5_addOperation 96 = .ok (.ldc 104, 2) := by decide +kernel
theorem dX5_addOperation_98 : decode cX5_addOperation 98 = .ok (.invokespecial 30, 3) := by decide +kernel
theorem dX5_addOperation_101 : decode cX5_addOperation 101 = .ok (.athrow, 1) := by decide +kernel
theorem dX5_addOperation_102 : decode cX5_addOperation 102 = .ok (.aload 6, 2) := by decide +kernel
theorem dX5_addOperation_104 : decode cX5_addOperation 104 = .ok (.getfield 106, 3) := by decide +kernel
theorem dX5_addOperation_107 : decode cX5_addOperation 107 = .ok (.ifCond .eq 13, 3) := by decide +kernel
theorem dX5_addOperation_110 : decode cX5_addOperation 110 = .ok (.new 26, 3) := by decide +kernel
theorem dX5_addOperation_113 : decode cX5_addOperation 113 = .ok (.dup, 1) := by decide +kernel
theorem dX5_addOperation_114 : decode cX5_addOperation 114 = .ok (.ldc 109, 2) := by decide +kernel
theorem dX5_addOperation_116 : decode cX5_addOperation 116 = .ok (.invokespecial 30, 3) := by decide +kernel
theorem dX5_addOperation_119 : decode cX5_addOperation 119 = .ok (.athrow, 1) := by decide +kernel
theorem dX5_addOperation_120 : decode cX5_addOperation 120 = .ok (.iload 5, 2) := by decide +kernel
theorem dX5_addOperation_122 : decode cX5_addOperation 122 = .ok (.invokestatic 111, 3) := by decide +kernel
theorem dX5_addOperation_125 : decode cX5_addOperation 125 = .ok (.aload 7, 2) := by decide +kernel
theorem dX5_addOperation_127 : decode cX5_addOperation 127 = .ok (.getfield 55, 3) := by decide +kernel
theorem dX5_addOperation_130 : decode cX5_addOperation 130 = .ok (.if_icmp .le 13, 3) := by decide +kernel
theorem dX5_addOperation_133 : decode cX5_addOperation 133 = .ok (.new 26, 3) := by decide +kernel
theorem dX5_addOperation_136 : decode cX5_addOperation 136 = .ok (.dup, 1) := by decide +kernel
theorem dX5_addOperation_137 : decode cX5_addOperation 137 = .ok (.ldc 117, 2) := by decide +kernel
theorem dX5_addOperation_139 : decode cX5_addOperation 139 = .ok (.invokespecial 30, 3) := by decide +kernel
theorem dX5_addOperation_142 : decode cX5_addOperation 142 = .ok (.athrow, 1) := by decide +kernel
theorem dX5_addOperation_143 : decode cX5_addOperation 143 = .ok (.aload 6, 2) := by decide +kernel
theorem dX5_addOperation_145 : decode cX5_addOperation 145 = .ok (.aload 7, 2) := by decide +kernel
theorem dX5_addOperation_147 : decode cX5_addOperation 147 = .ok (.iload_n 3, 1) := by decide +kernel
theorem dX5_addOperation_148 : decode cX5_addOperation 148 = .ok (.iload 4, 2) := by decide +kernel
theorem dX5_addOperation_150 : decode cX5_addOperation 150 = .ok (.iload 5, 2) := by decide +kernel
theorem dX5_addOperation_152 : decode cX5_addOperation 152 = .ok (.invokevirtual 119, 3) := by decide +kernel
theorem dX5_addOperation_155 : decode cX5_addOperation 155 = .ok (.ireturn, 1) := by decide +kernel
theorem dX5_setSetup_0 : decode cX5_setSetup 0 = .ok (.iload_n 1, 1) := by decide +kernel
theorem dX5_setSetup_1 : decode cX5_setSetup 1 = .ok (.ifCond .lt 17, 3) := by decide +kernel
theorem dX5_setSetup_4 : decode cX5_setSetup 4 = .ok (.iload_n 1, 1) := by decide +kernel
theorem dX5_setSetup_5 : decode cX5_setSetup 5 = .ok (.iconst 4, 1) := by decide +kernel
theorem dX5_setSetup_6 : decode cX5_setSetup 6 = .ok (.if_icmp .ge 12, 3) := by decide +kernel
theorem dX5_setSetup_9 : decode cX5_setSetup 9 = .ok (.iload_n 2, 1) := by decide +kernel
theorem dX5_setSetup_10 : decode cX5_setSetup 10 = .ok (.ifCond .lt 8, 3) := by decide +kernel
theorem dX5_setSetup_13 : decode cX5_setSetup 13 = .ok (.iload_n 2, 1) := by decide +kernel
theorem dX5_setSetup_14 : decode cX5_setSetup 14 = .ok (.iconst 4, 1) := by decide +kernel
theorem dX5_setSetup_15 : decode cX5_setSetup 15 = .ok (.if_icmp .lt 13, 3) := by decide +kernel
theorem dX5_setSetup_18 : decode cX5_setSetup 18 = .ok (.new 123, 3) := by decide +kernel
theorem dX5_setSetup_21 : decode cX5_setSetup 21 = .ok (.dup, 1) := by decide +kernel
theorem dX5_setSetup_22 : decode cX5_setSetup 22 = .ok (.ldc 125, 2) := by decide +kernel
theorem dX5_setSetup_24 : decode cX5_setSetup 24 = .ok (.invokespecial 127, 3) := by decide +kernel
theorem dX5_setSetup_27 : decode cX5_setSetup 27 = .ok (.athrow, 1) := by decide +kernel
theorem dX5_setSetup_28 : decode cX5_setSetup 28 = .ok (.iload_n 3, 1) := by decide +kernel
theorem dX5_setSetup_29 : decode cX5_setSetup 29 = .ok (.ifCond .lt 9, 3) := by decide +kernel
theorem dX5_setSetup_32 : decode cX5_setSetup 32 = .ok (.iload_n 3, 1) := by decide +kernel
theorem dX5_setSetup_33 : decode cX5_setSetup 33 = .ok (.bipush 60, 2) := by decide +kernel
theorem dX5_setSetup_35 : decode cX5_setSetup 35 = .ok (.if_icmp .le 13, 3) := by decide +kernel
theorem dX5_setSetup_38 : decode cX5_setSetup 38 = .ok (.new 44, 3) := by decide +kernel
theorem dX5_setSetup_41 : decode cX5_setSetup 41 = .ok (.dup, 1) := by decide +kernel
theorem dX5_setSetup_42 : decode cX5_setSetup 42 = .ok (.ldc 128, 2) := by decide +kernel
theorem dX5_setSetup_44 : decode cX5_setSetup 44 = .ok (.invokespecial 48, 3) := by decide +kernel
theorem dX5_setSetup_47 : decode cX5_setSetup 47 = .ok (.athrow, 1) := by decide +kernel
theorem dX5_setSetup_48 : decode cX5_setSetup 48 = .ok (.aload_n 0, 1) := by decide +kernel
theorem dX5_setSetup_49 : decode cX5_setSetup 49 = .ok (.getfield 12, 3) := by decide +kernel
theorem dX5_setSetup_52 : decode cX5_setSetup 52 = .ok (.getfield 130, 3) := by decide +kernel
theorem dX5_setSetup_55 : decode cX5_setSetup 55 = .ok (.getfield 134, 3) := by decide +kernel
theorem dX5_setSetup_58 : decode cX5_setSetup 58 = .ok (.iload_n 1, 1) := by decide +kernel
theorem dX5_setSetup_59 : decode cX5_setSetup 59 = .ok (.aaload, 1) := by decide +kernel
theorem dX5_setSetup_60 : decode cX5_setSetup 60 = .ok (.iload_n 2, 1) := by decide +kernel
theorem dX5_setSetup_61 : decode cX5_setSetup 61 = .ok (.iaload, 1) := by decide +kernel
theorem dX5_setSetup_62 : decode cX5_setSetup 62 = .ok (.istore 4, 2) := by decide +kernel
theorem dX5_setSetup_64 : decode cX5_setSetup 64 = .ok (.aload_n 0, 1) := by decide +kernel
theorem dX5_setSetup_65 : decode cX5_setSetup 65 = .ok (.getfield 12, 3) := by decide +kernel
theorem dX5_setSetup_68 : decode cX5_setSetup 68 = .ok (.getfield 130, 3) := by decide +kernel
theorem dX5_setSetup_71 : decode cX5_setSetup 71 = .ok (.getfield 134, 3) := by decide +kernel
theorem dX5_setSetup_74 : decode cX5_setSetup 74 = .ok (.iload_n 1, 1) := by decide +kernel
theorem dX5_setSetup_75 : decode cX5_setSetup 75 = .ok (.aaload, 1) := by decide +kernel
theorem dX5_setSetup_76 : decode cX5_setSetup 76 = .ok (.iload_n 2, 1) := by decide +kernel
theorem dX5_setSetup_77 : decode cX5_setSetup 77 = .ok (.iload_n 3, 1) := by decide +kernel
theorem dX5_setSetup_78 : decode cX5_setSetup 78 = .ok (.iastore, 1) := by decide +kernel
theorem dX5_setSetup_79 : decode cX5_setSetup 79 = .ok (.aload_n 0, 1) := by decide +kernel
theorem dX5_setSetup_80 : decode cX5_setSetup 80 = .ok (.getfield 12, 3) := by decide +kernel
theorem dX5_setSetup_83 : decode cX5_setSetup 83 = .ok (.invokevirtual 72, 3) := by decide +kernel
theorem dX5_setSetup_86 : decode cX5_setSetup 86 = .ok (.pop, 1) := by decide +kernel
theorem dX5_setSetup_87 : decode cX5_setSetup 87 = .ok (.iload 4, 2) := by decide +kernel
theorem dX5_setSetup_89 : decode cX5_setSetup 89 = .ok (.ireturn, 1) := by decide +kernel
theorem dX5_place_0 : decode cX5_place 0 = .ok (.aload_n 0, 1) := by decide +kernel
theorem dX5_place_1 : decode cX5_place 1 = .ok (.iload_n 1, 1) := by decide +kernel
theorem dX5_place_2 : decode cX5_place 2 = .ok (.invokevirtual 140, 3) := by decide +kernel
theorem dX5_place_5 : decode cX5_place 5 = .ok (.astore_n 2, 1) := by decide +kernel
theorem dX5_place_6 : decode cX5_place 6 = .ok (.iconst 0, 1) := by decide +kernel
theorem dX5_place_7 : decode cX5_place 7 = .ok (.istore_n 3, 1) := by decide +kernel
theorem dX5_place_8 : decode cX5_place 8 = .ok (.iload_n 3, 1) := by decide +kernel
theorem dX5_place_9 : decode cX5_place 9 = .ok (.aload_n 2, 1) := by decide +kernel
theorem dX5_place_10 : decode cX5_place 10 = .ok (.getfield 101, 3) := by decide +kernel
theorem dX5_place_13 : decode cX5_place 13 = .ok (.invokevirtual 20, 3) := by decide +kernel
theorem dX5_place_16 : decode cX5_place 16 = .ok (.if_icmp .ge 43, 3) := by decide +kernel
theorem dX5_place_19 : decode cX5_place 19 = .ok (.aload_n 2, 1) := by decide +kernel
theorem dX5_place_20 : decode cX5_place 20 = .ok (.getfield 101, 3) := by decide +kernel
theorem dX5_place_23 : decode cX5_place 23 = .ok (.iload_n 3, 1) := by decide +kernel
theorem dX5_place_24 : decode cX5_place 24 = .ok (.invokevirtual 143, 3) := by decide +kernel
theorem dX5_place_27 : decode cX5_place 27 = .ok (.checkcast 147, 3) := by decide +kernel
theorem dX5_place_30 : decode cX5_place 30 = .ok (.astore 4, 2) := by decide +kernel
theorem dX5_place_32 : decode cX5_place 32 = .ok (.aload 4, 2) := by decide +kernel
theorem dX5_place_34 : decode cX5_place 34 = .ok (.getfield 149, 3) := by decide +kernel
theorem dX5_place_37 : decode cX5_place 37 = .ok (.aload 4, 2) := by decide +kernel
theorem dX5_place_39 : decode cX5_place 39 = .ok (.aload 4, 2) := by decide +kernel
theorem dX5_place_41 : decode cX5_place 41 = .ok (.getfield 149, 3) := by decide +kernel
theorem dX5_place_44 : decode cX5_place 44 = .ok (.getfield 153, 3) := by decide +kernel
theorem dX5_place_47 : decode cX5_place 47 = .ok (.invokevirtual 20, 3) := by decide +kernel
theorem dX5_place_50 : decode cX5_place 50 = .ok (.invokevirtual 156, 3) := by decide +kernel
theorem dX5_place_53 : decode cX5_place 53 = .ok (.iinc 3 1, 3) := by decide +kernel
theorem dX5_place_56 : decode cX5_place 56 = .ok (.goto (-48), 3) := by decide +kernel
theorem dX5_place_59 : decode cX5_place 59 = .ok (.aload_n 2, 1) := by decide +kernel
theorem dX5_place_60 : decode cX5_place 60 = .ok (.iconst 1, 1) := by decide +kernel
theorem dX5_place_61 : decode cX5_place 61 = .ok (.putfield 106, 3) := by decide +kernel
theorem dX5_place_64 : decode cX5_place 64 = .ok (.aload_n 0, 1) := by decide +kernel
theorem dX5_place_65 : decode cX5_place 65 = .ok (.getfield 12, 3) := by decide +kernel
theorem dX5_place_68 : decode cX5_place 68 = .ok (.invokevirtual 72, 3) := by decide +kernel
theorem dX5_place_71 : decode cX5_place 71 = .ok (.pop, 1) := by decide +kernel
theorem dX5_place_72 : decode cX5_place 72 = .ok (.aload_n 0, 1) := by decide +kernel
theorem dX5_place_73 : decode cX5_place 73 = .ok (.getfield 12, 3) := by decide +kernel
theorem dX5_place_76 : decode cX5_place 76 = .ok (.getfield 76, 3) := by decide +kernel
theorem dX5_place_79 : decode cX5_place 79 = .ok (.ireturn, 1) := by decide +kernel
theorem dX5_rush_0 : decode cX5_rush 0 = .ok (.aload_n 0, 1) := by decide +kernel
theorem dX5_rush_1 : decode cX5_rush 1 = .ok (.iload_n 1, 1) := by decide +kernel
theorem dX5_rush_2 : decode cX5_rush 2 = .ok (.invokevirtual 140, 3) := by decide +kernel
theorem dX5_rush_5 : decode cX5_rush 5 = .ok (.astore_n 2, 1) := by decide +kernel
theorem dX5_rush_6 : decode cX5_rush 6 = .ok (.iconst 0, 1) := by decide +kernel
theorem dX5_rush_7 : decode cX5_rush 7 = .ok (.istore_n 3, 1) := by decide +kernel
theorem dX5_rush_8 : decode cX5_rush 8 = .ok (.iload_n 3, 1) := by decide +kernel
theorem dX5_rush_9 : decode cX5_rush 9 = .ok (.aload_n 2, 1) := by decide +kernel
theorem dX5_rush_10 : decode cX5_rush 10 = .ok (.getfield 101, 3) := by decide +kernel
theorem dX5_rush_13 : decode cX5_rush 13 = .ok (.invokevirtual 20, 3) := by decide +kernel
theorem dX5_rush_16 : decode cX5_rush 16 = .ok (.if_icmp .ge 27, 3) := by decide +kernel
theorem dX5_rush_19 : decode cX5_rush 19 = .ok (.aload_n 0, 1) := by decide +kernel
theorem dX5_rush_20 : decode cX5_rush 20 = .ok (.getfield 12, 3) := by decide +kernel
theorem dX5_rush_23 : decode cX5_rush 23 = .ok (.aload_n 2, 1) := by decide +kernel
theorem dX5_rush_24 : decode cX5_rush 24 = .ok (.getfield 101, 3) := by decide +kernel
theorem dX5_rush_27 : decode cX5_rush 27 = .ok (.iload_n 3, 1) := by decide +kernel
theorem dX5_rush_28 : decode cX5_rush 28 = .ok (.invokevirtual 143, 3) := by decide +kernel
theorem dX5_rush_31 : decode cX5_rush 31 = .ok (.checkcast 147, 3) := by decide +kernel
theorem dX5_rush_34 : decode cX5_rush 34 = .ok (.invokevirtual 160, 3) := by decide +kernel
theorem dX5_rush_37 : decode cX5_rush 37 = .ok (.iinc 3 1, 3) := by decide +kernel
theorem dX5_rush_40 : decode cX5_rush 40 = .ok (.goto (-32), 3) := by decide +kernel
theorem dX5_rush_43 : decode cX5_rush 43 = .ok (.aload_n 2, 1) := by decide +kernel
theorem dX5_rush_44 : decode cX5_rush 44 = .ok (.iconst 1, 1) := by decide +kernel
theorem dX5_rush_45 : decode cX5_rush 45 = .ok (.putfield 106, 3) := by decide +kernel
theorem dX5_rush_48 : decode cX5_rush 48 = .ok (.aload_n 0, 1) := by decide +kernel
theorem dX5_rush_49 : decode cX5_rush 49 = .ok (.getfield 12, 3) := by decide +kernel
theorem dX5_rush_52 : decode cX5_rush 52 = .ok (.invokevirtual 72, 3) := by decide +kernel
theorem dX5_rush_55 : decode cX5_rush 55 = .ok (.pop, 1) := by decide +kernel
theorem dX5_rush_56 : decode cX5_rush 56 = .ok (.aload_n 0, 1) := by decide +kernel
theorem dX5_rush_57 : decode cX5_rush 57 = .ok (.getfield 12, 3) := by decide +kernel
theorem dX5_rush_60 : decode cX5_rush 60 = .ok (.getfield 76, 3) := by decide +kernel
theorem dX5_rush_63 : decode cX5_rush 63 = .ok (.ireturn, 1) := by decide +kernel
theorem dX5_remove_0 : decode cX5_remove 0 = .ok (.aload_n 0, 1) := by decide +kernel
theorem dX5_remove_1 : decode cX5_remove 1 = .ok (.iload_n 1, 1) := by decide +kernel
theorem dX5_remove_2 : decode cX5_remove 2 = .ok (.invokevirtual 164, 3) := by decide +kernel
theorem dX5_remove_5 : decode cX5_remove 5 = .ok (.astore_n 2, 1) := by decide +kernel
theorem dX5_remove_6 : decode cX5_remove 6 = .ok (.iconst 0, 1) := by decide +kernel
theorem dX5_remove_7 : decode cX5_remove 7 = .ok (.istore_n 3, 1) := by decide +kernel
theorem dX5_remove_8 : decode cX5_remove 8 = .ok (.iload_n 3, 1) := by decide +kernel
theorem dX5_remove_9 : decode cX5_remove 9 = .ok (.aload_n 0, 1) := by decide +kernel
theorem dX5_remove_10 : decode cX5_remove 10 = .ok (.getfield 12, 3) := by decide +kernel
theorem dX5_remove_13 : decode cX5_remove 13 = .ok (.getfield 16, 3) := by decide +kernel
theorem dX5_remove_16 : decode cX5_remove 16 = .ok (.invokevirtual 20, 3) := by decide +kernel
theorem dX5_remove_19 : decode cX5_remove 19 = .ok (.if_icmp .ge 27, 3) := by decide +kernel
theorem dX5_remove_22 : decode cX5_remove 22 = .ok (.aload_n 0, 1) := by decide +kernel
theorem dX5_remove_23 : decode cX5_remove 23 = .ok (.getfield 12, 3) := by decide +kernel
theorem dX5_remove_26 : decode cX5_remove 26 = .ok (.getfield 16, 3) := by decide +kernel
theorem dX5_remove_29 : decode cX5_remove 29 = .ok (.iload_n 3, 1) := by decide +kernel
theorem dX5_remove_30 : decode cX5_remove 30 = .ok (.invokevirtual 143, 3) := by decide +kernel
theorem dX5_remove_33 : decode cX5_remove 33 = .ok (.checkcast 33, 3) := by decide +kernel
theorem dX5_remove_36 : decode cX5_remove 36 = .ok (.aload_n 2, 1) := by decide +kernel
theorem dX5_remove_37 : decode cX5_remove 37 = .ok (.invokevirtual 167, 3) := by decide +kernel
theorem dX5_remove_40 : decode cX5_remove 40 = .ok (.iinc 3 1, 3) := by decide +kernel
theorem dX5_remove_43 : decode cX5_remove 43 = .ok (.goto (-35), 3) := by decide +kernel
theorem dX5_remove_46 : decode cX5_remove 46 = .ok (.aload_n 2, 1) := by decide +kernel
theorem dX5_remove_47 : decode cX5_remove 47 = .ok (.iconst 0, 1) := by decide +kernel
theorem dX5_remove_48 : decode cX5_remove 48 = .ok (.putfield 106, 3) := by decide +kernel
theorem dX5_remove_51 : decode cX5_remove 51 = .ok (.aload_n 0, 1) := by decide +kernel
theorem dX5_remove_52 : decode cX5_remove 52 = .ok (.getfield 12, 3) := by decide +kernel
theorem dX5_remove_55 : decode cX5_remove 55 = .ok (.invokevirtual 72, 3) := by decide +kernel
theorem dX5_remove_58 : decode cX5_remove 58 = .ok (.pop, 1) := by decide +kernel
theorem dX5_remove_59 : decode cX5_remove 59 = .ok (.aload_n 0, 1) := by decide +kernel
theorem dX5_remove_60 : decode cX5_remove 60 = .ok (.getfield 12, 3) := by decide +kernel
theorem dX5_remove_63 : decode cX5_remove 63 = .ok (.getfield 76, 3) := by decide +kernel
theorem dX5_remove_66 : decode cX5_remove 66 = .ok (.ireturn, 1) := by decide +kernel
theorem dX5_swap_0 : decode cX5_swap 0 = .ok (.aload_n 0, 1) := by decide +kernel
theorem dX5_swap_1 : decode cX5_swap 1 = .ok (.iload_n 1, 1) := by decide +kernel
theorem dX5_swap_2 : decode cX5_swap 2 = .ok (.invokevirtual 40, 3) := by decide +kernel
theorem dX5_swap_5 : decode cX5_swap 5 = .ok (.astore_n 3, 1) := by decide +kernel
theorem dX5_swap_6 : decode cX5_swap 6 = .ok (.iload_n 2, 1) := by decide +kernel
theorem dX5_swap_7 : decode cX5_swap 7 = .ok (.ifCond .lt 16, 3) := by decide +kernel
theorem dX5_swap_10 : decode cX5_swap 10 = .ok (.iload_n 2, 1) := by decide +kernel
theorem dX5_swap_11 : decode cX5_swap 11 = .ok (.aload_n 3, 1) := by decide +kernel
theorem dX5_swap_12 : decode cX5_swap 12 = .ok (.getfield 153, 3) := by decide +kernel
theorem dX5_swap_15 : decode cX5_swap 15 = .ok (.invokevirtual 20, 3) := by decide +kernel
theorem dX5_swap_18 : decode cX5_swap 18 = .ok (.iconst 1, 1) := by decide +kernel
theorem dX5_swap_19 : decode cX5_swap 19 = .ok (.isub, 1) := by decide +kernel
theorem dX5_swap_20 : decode cX5_swap 20 = .ok (.if_icmp .lt 13, 3) := by decide +kernel
theorem dX5_swap_23 : decode cX5_swap 23 = .ok (.new 123, 3) := by decide +kernel
theorem dX5_swap_26 : decode cX5_swap 26 = .ok (.dup, 1) := by decide +kernel
theorem dX5_swap_27 : decode cX5_swap 27 = .ok (.ldc 171, 2) := by decide +kernel
theorem dX5_swap_29 : decode cX5_swap 29 = .ok (.invokespecial 127, 3) := by decide +kernel
theorem dX5_swap_32 : decode cX5_swap 32 = .ok (.athrow, 1) := by decide +kernel
theorem dX5_swap_33 : decode cX5_swap 33 = .ok (.aload_n 3, 1) := by decide +kernel
theorem dX5_swap_34 : decode cX5_swap 34 = .ok (.iload_n 2, 1) := by decide +kernel
theorem dX5_swap_35 : decode cX5_swap 35 = .ok (.invokevirtual 173, 3) := by decide +kernel
theorem dX5_swap_38 : decode cX5_swap 38 = .ok (.aload_n 0, 1) := by decide +kernel
theorem dX5_swap_39 : decode cX5_swap 39 = .ok (.getfield 12, 3) := by decide +kernel
theorem dX5_swap_42 : decode cX5_swap 42 = .ok (.invokevirtual 72, 3) := by decide +kernel
theorem dX5_swap_45 : decode cX5_swap 45 = .ok (.ifCond .ne 26, 3) := by decide +kernel
theorem dX5_swap_48 : decode cX5_swap 48 = .ok (.aload_n 3, 1) := by decide +kernel
theorem dX5_swap_49 : decode cX5_swap 49 = .ok (.iload_n 2, 1) := by decide +kernel
theorem dX5_swap_50 : decode cX5_swap 50 = .ok (.invokevirtual 173, 3) := by decide +kernel
theorem dX5_swap_53 : decode cX5_swap 53 = .ok (.aload_n 0, 1) := by decide +kernel
theorem dX5_swap_54 : decode cX5_swap 54 = .ok (.getfield 12, 3) := by decide +kernel
theorem dX5_swap_57 : decode cX5_swap 57 = .ok (.invokevirtual 72, 3) := by decide +kernel
theorem dX5_swap_60 : decode cX5_swap 60 = .ok (.pop, 1) := by decide +kernel
theorem dX5_swap_61 : decode cX5_swap 61 = .ok (.new 26, 3) := by decide +kernel
theorem dX5_swap_64 : decode cX5_swap 64 = .ok (.dup, 1) := by decide +kernel
theorem dX5_swap_65 : decode cX5_swap 65 = .ok (.ldc 177, 2) := by decide +kernel
theorem dX5_swap_67 : decode cX5_swap 67 = .ok (.invokespecial 30, 3) := by decide +kernel
theorem dX5_swap_70 : decode cX5_swap 70 = .ok (.athrow, 1) := by decide +kernel
theorem dX5_swap_71 : decode cX5_swap 71 = .ok (.aload_n 0, 1) := by decide +kernel
theorem dX5_swap_72 : decode cX5_swap 72 = .ok (.getfield 12, 3) := by decide +kernel
theorem dX5_swap_75 : decode cX5_swap 75 = .ok (.getfield 76, 3) := by decide +kernel
theorem dX5_swap_78 : decode cX5_swap 78 = .ok (.ireturn, 1) := by decide +kernel
theorem dX5_placed_0 : decode cX5_placed 0 = .ok (.aload_n 0, 1) := by decide +kernel
theorem dX5_placed_1 : decode cX5_placed 1 = .ok (.iload_n 1, 1) := by decide +kernel
theorem dX5_placed_2 : decode cX5_placed 2 = .ok (.invokevirtual 40, 3) := by decide +kernel
theorem dX5_placed_5 : decode cX5_placed 5 = .ok (.getfield 153, 3) := by decide +kernel
theorem dX5_placed_8 : decode cX5_placed 8 = .ok (.invokevirtual 20, 3) := by decide +kernel
theorem dX5_placed_11 : decode cX5_placed 11 = .ok (.ireturn, 1) := by decide +kernel
theorem dX5_placedAt_0 : decode cX5_placedAt 0 = .ok (.aload_n 0, 1) := by decide +kernel
theorem dX5_placedAt_1 : decode cX5_placedAt 1 = .ok (.iload_n 1, 1) := by decide +kernel
theorem dX5_placedAt_2 : decode cX5_placedAt 2 = .ok (.invokevirtual 40, 3) := by decide +kernel
theorem dX5_placedAt_5 : decode cX5_placedAt 5 = .ok (.astore_n 3, 1) := by decide +kernel
theorem dX5_placedAt_6 : decode cX5_placedAt 6 = .ok (.iload_n 2, 1) := by decide +kernel
theorem dX5_placedAt_7 : decode cX5_placedAt 7 = .ok (.ifCond .lt 14, 3) := by decide +kernel
theorem dX5_placedAt_10 : decode cX5_placedAt 10 = .ok (.iload_n 2, 1) := by decide +kernel
theorem dX5_placedAt_11 : decode cX5_placedAt 11 = .ok (.aload_n 3, 1) := by decide +kernel
theorem dX5_placedAt_12 : decode cX5_placedAt 12 = .ok (.getfield 153, 3) := by decide +kernel
theorem dX5_placedAt_15 : decode cX5_placedAt 15 = .ok (.invokevirtual 20, 3) := by decide +kernel
theorem dX5_placedAt_18 : decode cX5_placedAt 18 = .ok (.if_icmp .lt 13, 3) := by decide +kernel
theorem dX5_placedAt_21 : decode cX5_placedAt 21 = .ok (.new 123, 3) := by decide +kernel
theorem dX5_placedAt_24 : decode cX5_placedAt 24 = .ok (.dup, 1) := by decide +kernel
theorem dX5_placedAt_25 : decode cX5_placedAt 25 = .ok (.ldc 179, 2) := by decide +kernel
theorem dX5_placedAt_27 : decode cX5_placedAt 27 = .ok (.invokespecial 127, 3) := by decide +kernel
theorem dX5_placedAt_30 : decode cX5_placedAt 30 = .ok (.athrow, 1) := by decide +kernel
theorem dX5_placedAt_31 : decode cX5_placedAt 31 = .ok (.aload_n 3, 1) := by decide +kernel
theorem dX5_placedAt_32 : decode cX5_placedAt 32 = .ok (.getfield 153, 3) := by decide +kernel
theorem dX5_placedAt_35 : decode cX5_placedAt 35 = .ok (.iload_n 2, 1) := by decide +kernel
theorem dX5_placedAt_36 : decode cX5_placedAt 36 = .ok (.invokevirtual 143, 3) := by decide +kernel
theorem dX5_placedAt_39 : decode cX5_placedAt 39 = .ok (.checkcast 147, 3) := by decide +kernel
theorem dX5_placedAt_42 : decode cX5_placedAt 42 = .ok (.invokevirtual 181, 3) := by decide +kernel
theorem dX5_placedAt_45 : decode cX5_placedAt 45 = .ok (.ireturn, 1) := by decide +kernel
theorem dX5_startOf_0 : decode cX5_startOf 0 = .ok (.aload_n 0, 1) := by decide +kernel
theorem dX5_startOf_1 : decode cX5_startOf 1 = .ok (.iload_n 1, 1) := by decide +kernel
theorem dX5_startOf_2 : decode cX5_startOf 2 = .ok (.iload_n 2, 1) := by decide +kernel
theorem dX5_startOf_3 : decode cX5_startOf 3 = .ok (.invokevirtual 184, 3) := by decide +kernel
theorem dX5_startOf_6 : decode cX5_startOf 6 = .ok (.getfield 188, 3) := by decide +kernel
theorem dX5_startOf_9 : decode cX5_startOf 9 = .ok (.ireturn, 1) := by decide +kernel
theorem dX5_startByRounds_0 : decode cX5_startByRounds 0 = .ok (.aload_n 0, 1) := by decide +kernel
theorem dX5_startByRounds_1 : decode cX5_startByRounds 1 = .ok (.iload_n 1, 1) := by decide +kernel
theorem dX5_startByRounds_2 : decode cX5_startByRounds 2 = .ok (.iload_n 2, 1) := by decide +kernel
theorem dX5_startByRounds_3 : decode cX5_startByRounds 3 = .ok (.invokevirtual 184, 3) := by decide +kernel
theorem dX5_startByRounds_6 : decode cX5_startByRounds 6 = .ok (.astore_n 3, 1) := by decide +kernel
theorem dX5_startByRounds_7 : decode cX5_startByRounds 7 = .ok (.aload_n 0, 1) := by decide +kernel
theorem dX5_startByRounds_8 : decode cX5_startByRounds 8 = .ok (.getfield 12, 3) := by decide +kernel
theorem dX5_startByRounds_11 : decode cX5_startByRounds 11 = .ok (.invokevirtual 191, 3) := by decide +kernel
theorem dX5_startByRounds_14 : decode cX5_startByRounds 14 = .ok (.aload_n 3, 1) := by decide +kernel
theorem dX5_startByRounds_15 : decode cX5_startByRounds 15 = .ok (.getfield 194, 3) := by decide +kernel
theorem dX5_startByRounds_18 : decode cX5_startByRounds 18 = .ok (.ireturn, 1) := by decide +kernel
theorem dX5_lateness_0 : decode cX5_lateness 0 = .ok (.aload_n 0, 1) := by decide +kernel
theorem dX5_lateness_1 : decode cX5_lateness 1 = .ok (.iload_n 1, 1) := by decide +kernel
theorem dX5_lateness_2 : decode cX5_lateness 2 = .ok (.invokevirtual 164, 3) := by decide +kernel
theorem dX5_lateness_5 : decode cX5_lateness 5 = .ok (.astore_n 2, 1) := by decide +kernel
theorem dX5_lateness_6 : decode cX5_lateness 6 = .ok (.iconst 0, 1) := by decide +kernel
theorem dX5_lateness_7 : decode cX5_lateness 7 = .ok (.istore_n 3, 1) := by decide +kernel
theorem dX5_lateness_8 : decode cX5_lateness 8 = .ok (.iconst 0, 1) := by decide +kernel
theorem dX5_lateness_9 : decode cX5_lateness 9 = .ok (.istore 4, 2) := by decide +kernel
theorem dX5_lateness_11 : decode cX5_lateness 11 = .ok (.iload 4, 2) := by decide +kernel
theorem dX5_lateness_13 : decode cX5_lateness 13 = .ok (.aload_n 2, 1) := by decide +kernel
theorem dX5_lateness_14 : decode cX5_lateness 14 = .ok (.getfield 101, 3) := by decide +kernel
theorem dX5_lateness_17 : decode cX5_lateness 17 = .ok (.invokevirtual 20, 3) := by decide +kernel
theorem dX5_lateness_20 : decode cX5_lateness 20 = .ok (.if_icmp .ge 34, 3) := by decide +kernel
theorem dX5_lateness_23 : decode cX5_lateness 23 = .ok (.iload_n 3, 1) := by decide +kernel
theorem dX5_lateness_24 : decode cX5_lateness 24 = .ok (.aload_n 2, 1) := by decide +kernel
theorem dX5_lateness_25 : decode cX5_lateness 25 = .ok (.getfield 101, 3) := by decide +kernel
theorem dX5_lateness_28 : decode cX5_lateness 28 = .ok (.iload 4, 2) := by decide +kernel
theorem dX5_lateness_30 : decode cX5_lateness 30 = .ok (.invokevirtual 143, 3) := by decide +kernel
theorem dX5_lateness_33 : decode cX5_lateness 33 = .ok (.checkcast 147, 3) := by decide +kernel
theorem dX5_lateness_36 : decode cX5_lateness 36 = .ok (.getfield 197, 3) := by decide +kernel
theorem dX5_lateness_39 : decode cX5_lateness 39 = .ok (.aload_n 2, 1) := by decide +kernel
theorem dX5_lateness_40 : decode cX5_lateness 40 = .ok (.getfield 200, 3) := by decide +kernel
theorem dX5_lateness_43 : decode cX5_lateness 43 = .ok (.isub, 1) := by decide +kernel
theorem dX5_lateness_44 : decode cX5_lateness 44 = .ok (.invokestatic 203, 3) := by decide +kernel
theorem dX5_lateness_47 : decode cX5_lateness 47 = .ok (.istore_n 3, 1) := by decide +kernel
theorem dX5_lateness_48 : decode cX5_lateness 48 = .ok (.iinc 4 1, 3) := by decide +kernel
theorem dX5_lateness_51 : decode cX5_lateness 51 = .ok (.goto (-40), 3) := by decide +kernel
theorem dX5_lateness_54 : decode cX5_lateness 54 = .ok (.iload_n 3, 1) := by decide +kernel
theorem dX5_lateness_55 : decode cX5_lateness 55 = .ok (.ireturn, 1) := by decide +kernel
theorem dX5_span_0 : decode cX5_span 0 = .ok (.aload_n 0, 1) := by decide +kernel
theorem dX5_span_1 : decode cX5_span 1 = .ok (.getfield 12, 3) := by decide +kernel
theorem dX5_span_4 : decode cX5_span 4 = .ok (.getfield 76, 3) := by decide +kernel
theorem dX5_span_7 : decode cX5_span 7 = .ok (.ireturn, 1) := by decide +kernel
theorem dX5_slack_0 : decode cX5_slack 0 = .ok (.aload_n 0, 1) := by decide +kernel
theorem dX5_slack_1 : decode cX5_slack 1 = .ok (.iload_n 1, 1) := by decide +kernel
theorem dX5_slack_2 : decode cX5_slack 2 = .ok (.iload_n 2, 1) := by decide +kernel
theorem dX5_slack_3 : decode cX5_slack 3 = .ok (.invokevirtual 184, 3) := by decide +kernel
theorem dX5_slack_6 : decode cX5_slack 6 = .ok (.astore_n 3, 1) := by decide +kernel
theorem dX5_slack_7 : decode cX5_slack 7 = .ok (.aload_n 0, 1) := by decide +kernel
theorem dX5_slack_8 : decode cX5_slack 8 = .ok (.getfield 12, 3) := by decide +kernel
theorem dX5_slack_11 : decode cX5_slack 11 = .ok (.invokevirtual 209, 3) := by decide +kernel
theorem dX5_slack_14 : decode cX5_slack 14 = .ok (.aload_n 3, 1) := by decide +kernel
theorem dX5_slack_15 : decode cX5_slack 15 = .ok (.getfield 212, 3) := by decide +kernel
theorem dX5_slack_18 : decode cX5_slack 18 = .ok (.aload_n 3, 1) := by decide +kernel
theorem dX5_slack_19 : decode cX5_slack 19 = .ok (.getfield 188, 3) := by decide +kernel
theorem dX5_slack_22 : decode cX5_slack 22 = .ok (.isub, 1) := by decide +kernel
theorem dX5_slack_23 : decode cX5_slack 23 = .ok (.ireturn, 1) := by decide +kernel
theorem dX5_criticals_0 : decode cX5_criticals 0 = .ok (.aload_n 0, 1) := by decide +kernel
theorem dX5_criticals_1 : decode cX5_criticals 1 = .ok (.getfield 12, 3) := by decide +kernel
theorem dX5_criticals_4 : decode cX5_criticals 4 = .ok (.invokevirtual 215, 3) := by decide +kernel
theorem dX5_criticals_7 : decode cX5_criticals 7 = .ok (.aload_n 0, 1) := by decide +kernel
theorem dX5_criticals_8 : decode cX5_criticals 8 = .ok (.getfield 12, 3) := by decide +kernel
theorem dX5_criticals_11 : decode cX5_criticals 11 = .ok (.getfield 218, 3) := by decide +kernel
theorem dX5_criticals_14 : decode cX5_criticals 14 = .ok (.invokevirtual 20, 3) := by decide +kernel
theorem dX5_criticals_17 : decode cX5_criticals 17 = .ok (.ireturn, 1) := by decide +kernel
theorem dX5_criticalAt_0 : decode cX5_criticalAt 0 = .ok (.aload_n 0, 1) := by decide +kernel
theorem dX5_criticalAt_1 : decode cX5_criticalAt 1 = .ok (.getfield 12, 3) := by decide +kernel
theorem dX5_criticalAt_4 : decode cX5_criticalAt 4 = .ok (.invokevirtual 215, 3) := by decide +kernel
theorem dX5_criticalAt_7 : decode cX5_criticalAt 7 = .ok (.iload_n 1, 1) := by decide +kernel
theorem dX5_criticalAt_8 : decode cX5_criticalAt 8 = .ok (.ifCond .lt 17, 3) := by decide +kernel
theorem dX5_criticalAt_11 : decode cX5_criticalAt 11 = .ok (.iload_n 1, 1) := by decide +kernel
theorem dX5_criticalAt_12 : decode cX5_criticalAt 12 = .ok (.aload_n 0, 1) := by decide +kernel
theorem dX5_criticalAt_13 : decode cX5_criticalAt 13 = .ok (.getfield 12, 3) := by decide +kernel
theorem dX5_criticalAt_16 : decode cX5_criticalAt 16 = .ok (.getfield 218, 3) := by decide +kernel
theorem dX5_criticalAt_19 : decode cX5_criticalAt 19 = .ok (.invokevirtual 20, 3) := by decide +kernel
theorem dX5_criticalAt_22 : decode cX5_criticalAt 22 = .ok (.if_icmp .lt 13, 3) := by decide +kernel
theorem dX5_criticalAt_25 : decode cX5_criticalAt 25 = .ok (.new 123, 3) := by decide +kernel
theorem dX5_criticalAt_28 : decode cX5_criticalAt 28 = .ok (.dup, 1) := by decide +kernel
theorem dX5_criticalAt_29 : decode cX5_criticalAt 29 = .ok (.ldc 179, 2) := by decide +kernel
theorem dX5_criticalAt_31 : decode cX5_criticalAt 31 = .ok (.invokespecial 127, 3) := by decide +kernel
theorem dX5_criticalAt_34 : decode cX5_criticalAt 34 = .ok (.athrow, 1) := by decide +kernel
theorem dX5_criticalAt_35 : decode cX5_criticalAt 35 = .ok (.aload_n 0, 1) := by decide +kernel
theorem dX5_criticalAt_36 : decode cX5_criticalAt 36 = .ok (.getfield 12, 3) := by decide +kernel
theorem dX5_criticalAt_39 : decode cX5_criticalAt 39 = .ok (.getfield 218, 3) := by decide +kernel
theorem dX5_criticalAt_42 : decode cX5_criticalAt 42 = .ok (.aload_n 0, 1) := by decide +kernel
theorem dX5_criticalAt_43 : decode cX5_criticalAt 43 = .ok (.getfield 12, 3) := by decide +kernel
theorem dX5_criticalAt_46 : decode cX5_criticalAt 46 = .ok (.getfield 218, 3) := by decide +kernel
theorem dX5_criticalAt_49 : decode cX5_criticalAt 49 = .ok (.invokevirtual 20, 3) := by decide +kernel
theorem dX5_criticalAt_52 : decode cX5_criticalAt 52 = .ok (.iconst 1, 1) := by decide +kernel
theorem dX5_criticalAt_53 : decode cX5_criticalAt 53 = .ok (.isub, 1) := by decide +kernel
theorem dX5_criticalAt_54 : decode cX5_criticalAt 54 = .ok (.iload_n 1, 1) := by decide +kernel
theorem dX5_criticalAt_55 : decode cX5_criticalAt 55 = .ok (.isub, 1) := by decide +kernel
theorem dX5_criticalAt_56 : decode cX5_criticalAt 56 = .ok (.invokevirtual 143, 3) := by decide +kernel
theorem dX5_criticalAt_59 : decode cX5_criticalAt 59 = .ok (.checkcast 147, 3) := by decide +kernel
theorem dX5_criticalAt_62 : decode cX5_criticalAt 62 = .ok (.invokevirtual 181, 3) := by decide +kernel
theorem dX5_criticalAt_65 : decode cX5_criticalAt 65 = .ok (.ireturn, 1) := by decide +kernel
theorem dX5_setups_0 : decode cX5_setups 0 = .ok (.aload_n 0, 1) := by decide +kernel
theorem dX5_setups_1 : decode cX5_setups 1 = .ok (.getfield 12, 3) := by decide +kernel
theorem dX5_setups_4 : decode cX5_setups 4 = .ok (.getfield 130, 3) := by decide +kernel
theorem dX5_setups_7 : decode cX5_setups 7 = .ok (.aload_n 0, 1) := by decide +kernel
theorem dX5_setups_8 : decode cX5_setups 8 = .ok (.iload_n 1, 1) := by decide +kernel
theorem dX5_setups_9 : decode cX5_setups 9 = .ok (.invokevirtual 40, 3) := by decide +kernel
theorem dX5_setups_12 : decode cX5_setups 12 = .ok (.invokevirtual 221, 3) := by decide +kernel
theorem dX5_setups_15 : decode cX5_setups 15 = .ok (.ireturn, 1) := by decide +kernel
theorem dX5_loads_0 : decode cX5_loads 0 = .ok (.aload_n 0, 1) := by decide +kernel
theorem dX5_loads_1 : decode cX5_loads 1 = .ok (.iload_n 1, 1) := by decide +kernel
theorem dX5_loads_2 : decode cX5_loads 2 = .ok (.invokevirtual 40, 3) := by decide +kernel
theorem dX5_loads_5 : decode cX5_loads 5 = .ok (.invokevirtual 225, 3) := by decide +kernel
theorem dX5_loads_8 : decode cX5_loads 8 = .ok (.ireturn, 1) := by decide +kernel
theorem dX5_knownMachine_0 : decode cX5_knownMachine 0 = .ok (.iload_n 1, 1) := by decide +kernel
theorem dX5_knownMachine_1 : decode cX5_knownMachine 1 = .ok (.ifCond .lt 17, 3) := by decide +kernel
theorem dX5_knownMachine_4 : decode cX5_knownMachine 4 = .ok (.iload_n 1, 1) := by decide +kernel
theorem dX5_knownMachine_5 : decode cX5_knownMachine 5 = .ok (.aload_n 0, 1) := by decide +kernel
theorem dX5_knownMachine_6 : decode cX5_knownMachine 6 = .ok (.getfield 12, 3) := by decide +kernel
theorem dX5_knownMachine_9 : decode cX5_knownMachine 9 = .ok (.getfield 16, 3) := by decide +kernel
theorem dX5_knownMachine_12 : decode cX5_knownMachine 12 = .ok (.invokevirtual 20, 3) := by decide +kernel
theorem dX5_knownMachine_15 : decode cX5_knownMachine 15 = .ok (.if_icmp .lt 13, 3) := by decide +kernel
theorem dX5_knownMachine_18 : decode cX5_knownMachine 18 = .ok (.new 123, 3) := by decide +kernel
theorem dX5_knownMachine_21 : decode cX5_knownMachine 21 = .ok (.dup, 1) := by decide +kernel
theorem dX5_knownMachine_22 : decode cX5_knownMachine 22 = .ok (.ldc 228, 2) := by decide +kernel
theorem dX5_knownMachine_24 : decode cX5_knownMachine 24 = .ok (.invokespecial 127, 3) := by decide +kernel
theorem dX5_knownMachine_27 : decode cX5_knownMachine 27 = .ok (.athrow, 1) := by decide +kernel
theorem dX5_knownMachine_28 : decode cX5_knownMachine 28 = .ok (.aload_n 0, 1) := by decide +kernel
theorem dX5_knownMachine_29 : decode cX5_knownMachine 29 = .ok (.getfield 12, 3) := by decide +kernel
theorem dX5_knownMachine_32 : decode cX5_knownMachine 32 = .ok (.getfield 16, 3) := by decide +kernel
theorem dX5_knownMachine_35 : decode cX5_knownMachine 35 = .ok (.iload_n 1, 1) := by decide +kernel
theorem dX5_knownMachine_36 : decode cX5_knownMachine 36 = .ok (.invokevirtual 143, 3) := by decide +kernel
theorem dX5_knownMachine_39 : decode cX5_knownMachine 39 = .ok (.checkcast 33, 3) := by decide +kernel
theorem dX5_knownMachine_42 : decode cX5_knownMachine 42 = .ok (.areturn, 1) := by decide +kernel
theorem dX5_knownJob_0 : decode cX5_knownJob 0 = .ok (.iload_n 1, 1) := by decide +kernel
theorem dX5_knownJob_1 : decode cX5_knownJob 1 = .ok (.ifCond .lt 17, 3) := by decide +kernel
theorem dX5_knownJob_4 : decode cX5_knownJob 4 = .ok (.iload_n 1, 1) := by decide +kernel
theorem dX5_knownJob_5 : decode cX5_knownJob 5 = .ok (.aload_n 0, 1) := by decide +kernel
theorem dX5_knownJob_6 : decode cX5_knownJob 6 = .ok (.getfield 12, 3) := by decide +kernel
theorem dX5_knownJob_9 : decode cX5_knownJob 9 = .ok (.getfield 81, 3) := by decide +kernel
theorem dX5_knownJob_12 : decode cX5_knownJob 12 = .ok (.invokevirtual 20, 3) := by decide +kernel
theorem dX5_knownJob_15 : decode cX5_knownJob 15 = .ok (.if_icmp .lt 13, 3) := by decide +kernel
theorem dX5_knownJob_18 : decode cX5_knownJob 18 = .ok (.new 123, 3) := by decide +kernel
theorem dX5_knownJob_21 : decode cX5_knownJob 21 = .ok (.dup, 1) := by decide +kernel
theorem dX5_knownJob_22 : decode cX5_knownJob 22 = .ok (.ldc 230, 2) := by decide +kernel
theorem dX5_knownJob_24 : decode cX5_knownJob 24 = .ok (.invokespecial 127, 3) := by decide +kernel
theorem dX5_knownJob_27 : decode cX5_knownJob 27 = .ok (.athrow, 1) := by decide +kernel
theorem dX5_knownJob_28 : decode cX5_knownJob 28 = .ok (.aload_n 0, 1) := by decide +kernel
theorem dX5_knownJob_29 : decode cX5_knownJob 29 = .ok (.getfield 12, 3) := by decide +kernel
theorem dX5_knownJob_32 : decode cX5_knownJob 32 = .ok (.getfield 81, 3) := by decide +kernel
theorem dX5_knownJob_35 : decode cX5_knownJob 35 = .ok (.iload_n 1, 1) := by decide +kernel
theorem dX5_knownJob_36 : decode cX5_knownJob 36 = .ok (.invokevirtual 143, 3) := by decide +kernel
theorem dX5_knownJob_39 : decode cX5_knownJob 39 = .ok (.checkcast 86, 3) := by decide +kernel
theorem dX5_knownJob_42 : decode cX5_knownJob 42 = .ok (.areturn, 1) := by decide +kernel
theorem dX5_placedJob_0 : decode cX5_placedJob 0 = .ok (.aload_n 0, 1) := by decide +kernel
theorem dX5_placedJob_1 : decode cX5_placedJob 1 = .ok (.iload_n 1, 1) := by decide +kernel
theorem dX5_placedJob_2 : decode cX5_placedJob 2 = .ok (.invokevirtual 91, 3) := by decide +kernel
theorem dX5_placedJob_5 : decode cX5_placedJob 5 = .ok (.astore_n 2, 1) := by decide +kernel
theorem dX5_placedJob_6 : decode cX5_placedJob 6 = .ok (.aload_n 2, 1) := by decide +kernel
theorem dX5_placedJob_7 : decode cX5_placedJob 7 = .ok (.getfield 106, 3) := by decide +kernel
theorem dX5_placedJob_10 : decode cX5_placedJob 10 = .ok (.ifCond .ne 13, 3) := by decide +kernel
theorem dX5_placedJob_13 : decode cX5_placedJob 13 = .ok (.new 26, 3) := by decide +kernel
theorem dX5_placedJob_16 : decode cX5_placedJob 16 = .ok (.dup, 1) := by decide +kernel
theorem dX5_placedJob_17 : decode cX5_placedJob 17 = .ok (.ldc 232, 2) := by decide +kernel
theorem dX5_placedJob_19 : decode cX5_placedJob 19 = .ok (.invokespecial 30, 3) := by decide +kernel
theorem dX5_placedJob_22 : decode cX5_placedJob 22 = .ok (.athrow, 1) := by decide +kernel
theorem dX5_placedJob_23 : decode cX5_placedJob 23 = .ok (.aload_n 2, 1) := by decide +kernel
theorem dX5_placedJob_24 : decode cX5_placedJob 24 = .ok (.areturn, 1) := by decide +kernel
theorem dX5_waitingJob_0 : decode cX5_waitingJob 0 = .ok (.aload_n 0, 1) := by decide +kernel
theorem dX5_waitingJob_1 : decode cX5_waitingJob 1 = .ok (.iload_n 1, 1) := by decide +kernel
theorem dX5_waitingJob_2 : decode cX5_waitingJob 2 = .ok (.invokevirtual 91, 3) := by decide +kernel
theorem dX5_waitingJob_5 : decode cX5_waitingJob 5 = .ok (.astore_n 2, 1) := by decide +kernel
theorem dX5_waitingJob_6 : decode cX5_waitingJob 6 = .ok (.aload_n 2, 1) := by decide +kernel
theorem dX5_waitingJob_7 : decode cX5_waitingJob 7 = .ok (.getfield 106, 3) := by decide +kernel
theorem dX5_waitingJob_10 : decode cX5_waitingJob 10 = .ok (.ifCond .eq 13, 3) := by decide +kernel
theorem dX5_waitingJob_13 : decode cX5_waitingJob 13 = .ok (.new 26, 3) := by decide +kernel
theorem dX5_waitingJob_16 : decode cX5_waitingJob 16 = .ok (.dup, 1) := by decide +kernel
theorem dX5_waitingJob_17 : decode cX5_waitingJob 17 = .ok (.ldc 109, 2) := by decide +kernel
theorem dX5_waitingJob_19 : decode cX5_waitingJob 19 = .ok (.invokespecial 30, 3) := by decide +kernel
theorem dX5_waitingJob_22 : decode cX5_waitingJob 22 = .ok (.athrow, 1) := by decide +kernel
theorem dX5_waitingJob_23 : decode cX5_waitingJob 23 = .ok (.aload_n 2, 1) := by decide +kernel
theorem dX5_waitingJob_24 : decode cX5_waitingJob 24 = .ok (.getfield 101, 3) := by decide +kernel
theorem dX5_waitingJob_27 : decode cX5_waitingJob 27 = .ok (.invokevirtual 234, 3) := by decide +kernel
theorem dX5_waitingJob_30 : decode cX5_waitingJob 30 = .ok (.ifCond .eq 13, 3) := by decide +kernel
theorem dX5_waitingJob_33 : decode cX5_waitingJob 33 = .ok (.new 26, 3) := by decide +kernel
theorem dX5_waitingJob_36 : decode cX5_waitingJob 36 = .ok (.dup, 1) := by decide +kernel
theorem dX5_waitingJob_37 : decode cX5_waitingJob 37 = .ok (.ldc 237, 2) := by decide +kernel
theorem dX5_waitingJob_39 : decode cX5_waitingJob 39 = .ok (.invokespecial 30, 3) := by decide +kernel
theorem dX5_waitingJob_42 : decode cX5_waitingJob 42 = .ok (.athrow, 1) := by decide +kernel
theorem dX5_waitingJob_43 : decode cX5_waitingJob 43 = .ok (.aload_n 2, 1) := by decide +kernel
theorem dX5_waitingJob_44 : decode cX5_waitingJob 44 = .ok (.areturn, 1) := by decide +kernel
theorem dX5_placedOperation_0 : decode cX5_placedOperation 0 = .ok (.aload_n 0, 1) := by decide +kernel
theorem dX5_placedOperation_1 : decode cX5_placedOperation 1 = .ok (.iload_n 1, 1) := by decide +kernel
theorem dX5_placedOperation_2 : decode cX5_placedOperation 2 = .ok (.invokevirtual 91, 3) := by decide +kernel
theorem dX5_placedOperation_5 : decode cX5_placedOperation 5 = .ok (.astore_n 3, 1) := by decide +kernel
theorem dX5_placedOperation_6 : decode cX5_placedOperation 6 = .ok (.iload_n 2, 1) := by decide +kernel
theorem dX5_placedOperation_7 : decode cX5_placedOperation 7 = .ok (.ifCond .lt 14, 3) := by decide +kernel
theorem dX5_placedOperation_10 : decode cX5_placedOperation 10 = .ok (.iload_n 2, 1) := by decide +kernel
theorem dX5_placedOperation_11 : decode cX5_placedOperation 11 = .ok (.aload_n 3, 1) := by decide +kernel
theorem dX5_placedOperation_12 : decode cX5_placedOperation 12 = .ok (.getfield 101, 3) := by decide +kernel
theorem dX5_placedOperation_15 : decode cX5_placedOperation 15 = .ok (.invokevirtual 20, 3) := by decide +kernel
theorem dX5_placedOperation_18 : decode cX5_placedOperation 18 = .ok (.if_icmp .lt 13, 3) := by decide +kernel
theorem dX5_placedOperation_21 : decode cX5_placedOperation 21 = .ok (.new 123, 3) := by decide +kernel
theorem dX5_placedOperation_24 : decode cX5_placedOperation 24 = .ok (.dup, 1) := by decide +kernel
theorem dX5_placedOperation_25 : decode cX5_placedOperation 25 = .ok (.ldc 239, 2) := by decide +kernel
theorem dX5_placedOperation_27 : decode cX5_placedOperation 27 = .ok (.invokespecial 127, 3) := by decide +kernel
theorem dX5_placedOperation_30 : decode cX5_placedOperation 30 = .ok (.athrow, 1) := by decide +kernel
theorem dX5_placedOperation_31 : decode cX5_placedOperation 31 = .ok (.aload_n 3, 1) := by decide +kernel
theorem dX5_placedOperation_32 : decode cX5_placedOperation 32 = .ok (.getfield 106, 3) := by decide +kernel
theorem dX5_placedOperation_35 : decode cX5_placedOperation 35 = .ok (.ifCond .ne 13, 3) := by decide +kernel
theorem dX5_placedOperation_38 : decode cX5_placedOperation 38 = .ok (.new 26, 3) := by decide +kernel
theorem dX5_placedOperation_41 : decode cX5_placedOperation 41 = .ok (.dup, 1) := by decide +kernel
theorem dX5_placedOperation_42 : decode cX5_placedOperation 42 = .ok (.ldc 232, 2) := by decide +kernel
theorem dX5_placedOperation_44 : decode cX5_placedOperation 44 = .ok (.invokespecial 30, 3) := by decide +kernel
theorem dX5_placedOperation_47 : decode cX5_placedOperation 47 = .ok (.athrow, 1) := by decide +kernel
theorem dX5_placedOperation_48 : decode cX5_placedOperation 48 = .ok (.aload_n 3, 1) := by decide +kernel
theorem dX5_placedOperation_49 : decode cX5_placedOperation 49 = .ok (.getfield 101, 3) := by decide +kernel
theorem dX5_placedOperation_52 : decode cX5_placedOperation 52 = .ok (.iload_n 2, 1) := by decide +kernel
theorem dX5_placedOperation_53 : decode cX5_placedOperation 53 = .ok (.invokevirtual 143, 3) := by decide +kernel
theorem dX5_placedOperation_56 : decode cX5_placedOperation 56 = .ok (.checkcast 147, 3) := by decide +kernel
theorem dX5_placedOperation_59 : decode cX5_placedOperation 59 = .ok (.areturn, 1) := by decide +kernel
theorem dX6_init_0 : decode cX6_init 0 = .ok (.aload_n 0, 1) := by decide +kernel
theorem dX6_init_1 : decode cX6_init 1 = .ok (.invokespecial 1, 3) := by decide +kernel
theorem dX6_init_4 : decode cX6_init 4 = .ok (.aload_n 0, 1) := by decide +kernel
theorem dX6_init_5 : decode cX6_init 5 = .ok (.iconst 4, 1) := by decide +kernel
theorem dX6_init_6 : decode cX6_init 6 = .ok (.newarray .int, 2) := by decide +kernel
theorem dX6_init_8 : decode cX6_init 8 = .ok (.putfield 7, 3) := by decide +kernel
theorem dX6_init_11 : decode cX6_init 11 = .ok (.aload_n 0, 1) := by decide +kernel
theorem dX6_init_12 : decode cX6_init 12 = .ok (.iconst 4, 1) := by decide +kernel
theorem dX6_init_13 : decode cX6_init 13 = .ok (.newarray .int, 2) := by decide +kernel
theorem dX6_init_15 : decode cX6_init 15 = .ok (.putfield 13, 3) := by decide +kernel
theorem dX6_init_18 : decode cX6_init 18 = .ok (.aload_n 0, 1) := by decide +kernel
theorem dX6_init_19 : decode cX6_init 19 = .ok (.iconst 4, 1) := by decide +kernel
theorem dX6_init_20 : decode cX6_init 20 = .ok (.newarray .int, 2) := by decide +kernel
theorem dX6_init_22 : decode cX6_init 22 = .ok (.putfield 16, 3) := by decide +kernel
theorem dX6_init_25 : decode cX6_init 25 = .ok (.aload_n 0, 1) := by decide +kernel
theorem dX6_init_26 : decode cX6_init 26 = .ok (.iconst 4, 1) := by decide +kernel
theorem dX6_init_27 : decode cX6_init 27 = .ok (.newarray .int, 2) := by decide +kernel
theorem dX6_init_29 : decode cX6_init 29 = .ok (.putfield 19, 3) := by decide +kernel
theorem dX6_init_32 : decode cX6_init 32 = .ok (.aload_n 0, 1) := by decide +kernel
theorem dX6_init_33 : decode cX6_init 33 = .ok (.sipush 128, 3) := by decide +kernel
theorem dX6_init_36 : decode cX6_init 36 = .ok (.newarray .int, 2) := by decide +kernel
theorem dX6_init_38 : decode cX6_init 38 = .ok (.putfield 22, 3) := by decide +kernel
theorem dX6_init_41 : decode cX6_init 41 = .ok (.aload_n 0, 1) := by decide +kernel
theorem dX6_init_42 : decode cX6_init 42 = .ok (.bipush 8, 2) := by decide +kernel
theorem dX6_init_44 : decode cX6_init 44 = .ok (.newarray .int, 2) := by decide +kernel
theorem dX6_init_46 : decode cX6_init 46 = .ok (.putfield 25, 3) := by decide +kernel
theorem dX6_init_49 : decode cX6_init 49 = .ok (.aload_n 0, 1) := by decide +kernel
theorem dX6_init_50 : decode cX6_init 50 = .ok (.bipush 8, 2) := by decide +kernel
theorem dX6_init_52 : decode cX6_init 52 = .ok (.newarray .int, 2) := by decide +kernel
theorem dX6_init_54 : decode cX6_init 54 = .ok (.putfield 28, 3) := by decide +kernel
theorem dX6_init_57 : decode cX6_init 57 = .ok (.aload_n 0, 1) := by decide +kernel
theorem dX6_init_58 : decode cX6_init 58 = .ok (.bipush 8, 2) := by decide +kernel
theorem dX6_init_60 : decode cX6_init 60 = .ok (.newarray .boolean, 2) := by decide +kernel
theorem dX6_init_62 : decode cX6_init 62 = .ok (.putfield 31, 3) := by decide +kernel
theorem dX6_init_65 : decode cX6_init 65 = .ok (.aload_n 0, 1) := by decide +kernel
theorem dX6_init_66 : decode cX6_init 66 = .ok (.bipush 32, 2) := by decide +kernel
theorem dX6_init_68 : decode cX6_init 68 = .ok (.newarray .int, 2) := by decide +kernel
theorem dX6_init_70 : decode cX6_init 70 = .ok (.putfield 35, 3) := by decide +kernel
theorem dX6_init_73 : decode cX6_init 73 = .ok (.aload_n 0, 1) := by decide +kernel
theorem dX6_init_74 : decode cX6_init 74 = .ok (.bipush 32, 2) := by decide +kernel
theorem dX6_init_76 : decode cX6_init 76 = .ok (.newarray .int, 2) := by decide +kernel
theorem dX6_init_78 : decode cX6_init 78 = .ok (.putfield 38, 3) := by decide +kernel
theorem dX6_init_81 : decode cX6_init 81 = .ok (.aload_n 0, 1) := by decide +kernel
theorem dX6_init_82 : decode cX6_init 82 = .ok (.bipush 32, 2) := by decide +kernel
theorem dX6_init_84 : decode cX6_init 84 = .ok (.newarray .int, 2) := by decide +kernel
theorem dX6_init_86 : decode cX6_init 86 = .ok (.putfield 41, 3) := by decide +kernel
theorem dX6_init_89 : decode cX6_init 89 = .ok (.aload_n 0, 1) := by decide +kernel
theorem dX6_init_90 : decode cX6_init 90 = .ok (.bipush 32, 2) := by decide +kernel
theorem dX6_init_92 : decode cX6_init 92 = .ok (.newarray .int, 2) := by decide +kernel
theorem dX6_init_94 : decode cX6_init 94 = .ok (.putfield 44, 3) := by decide +kernel
theorem dX6_init_97 : decode cX6_init 97 = .ok (.aload_n 0, 1) := by decide +kernel
theorem dX6_init_98 : decode cX6_init 98 = .ok (.bipush 16, 2) := by decide +kernel
theorem dX6_init_100 : decode cX6_init 100 = .ok (.newarray .int, 2) := by decide +kernel
theorem dX6_init_102 : decode cX6_init 102 = .ok (.putfield 47, 3) := by decide +kernel
theorem dX6_init_105 : decode cX6_init 105 = .ok (.aload_n 0, 1) := by decide +kernel
theorem dX6_init_106 : decode cX6_init 106 = .ok (.bipush 32, 2) := by decide +kernel
theorem dX6_init_108 : decode cX6_init 108 = .ok (.newarray .boolean, 2) := by decide +kernel
theorem dX6_init_110 : decode cX6_init 110 = .ok (.putfield 50, 3) := by decide +kernel
theorem dX6_init_113 : decode cX6_init 113 = .ok (.aload_n 0, 1) := by decide +kernel
theorem dX6_init_114 : decode cX6_init 114 = .ok (.bipush 32, 2) := by decide +kernel
theorem dX6_init_116 : decode cX6_init 116 = .ok (.newarray .int, 2) := by decide +kernel
theorem dX6_init_118 : decode cX6_init 118 = .ok (.putfield 53, 3) := by decide +kernel
theorem dX6_init_121 : decode cX6_init 121 = .ok (.aload_n 0, 1) := by decide +kernel
theorem dX6_init_122 : decode cX6_init 122 = .ok (.bipush 32, 2) := by decide +kernel
theorem dX6_init_124 : decode cX6_init 124 = .ok (.newarray .int, 2) := by decide +kernel
theorem dX6_init_126 : decode cX6_init 126 = .ok (.putfield 56, 3) := by decide +kernel
theorem dX6_init_129 : decode cX6_init 129 = .ok (.aload_n 0, 1) := by decide +kernel
theorem dX6_init_130 : decode cX6_init 130 = .ok (.bipush 32, 2) := by decide +kernel
theorem dX6_init_132 : decode cX6_init 132 = .ok (.newarray .int, 2) := by decide +kernel
theorem dX6_init_134 : decode cX6_init 134 = .ok (.putfield 59, 3) := by decide +kernel
theorem dX6_init_137 : decode cX6_init 137 = .ok (.aload_n 0, 1) := by decide +kernel
theorem dX6_init_138 : decode cX6_init 138 = .ok (.bipush 32, 2) := by decide +kernel
theorem dX6_init_140 : decode cX6_init 140 = .ok (.newarray .int, 2) := by decide +kernel
theorem dX6_init_142 : decode cX6_init 142 = .ok (.putfield 62, 3) := by decide +kernel
theorem dX6_init_145 : decode cX6_init 145 = .ok (.aload_n 0, 1) := by decide +kernel
theorem dX6_init_146 : decode cX6_init 146 = .ok (.bipush 32, 2) := by decide +kernel
theorem dX6_init_148 : decode cX6_init 148 = .ok (.newarray .int, 2) := by decide +kernel
theorem dX6_init_150 : decode cX6_init 150 = .ok (.putfield 65, 3) := by decide +kernel
theorem dX6_init_153 : decode cX6_init 153 = .ok (.aload_n 0, 1) := by decide +kernel
theorem dX6_init_154 : decode cX6_init 154 = .ok (.sipush 256, 3) := by decide +kernel
theorem dX6_init_157 : decode cX6_init 157 = .ok (.newarray .int, 2) := by decide +kernel
theorem dX6_init_159 : decode cX6_init 159 = .ok (.putfield 68, 3) := by decide +kernel
theorem dX6_init_162 : decode cX6_init 162 = .ok (.aload_n 0, 1) := by decide +kernel
theorem dX6_init_163 : decode cX6_init 163 = .ok (.sipush 256, 3) := by decide +kernel
theorem dX6_init_166 : decode cX6_init 166 = .ok (.newarray .int, 2) := by decide +kernel
theorem dX6_init_168 : decode cX6_init 168 = .ok (.putfield 71, 3) := by decide +kernel
theorem dX6_init_171 : decode cX6_init 171 = .ok (.aload_n 0, 1) := by decide +kernel
theorem dX6_init_172 : decode cX6_init 172 = .ok (.iconst 0, 1) := by decide +kernel
theorem dX6_init_173 : decode cX6_init 173 = .ok (.putfield 74, 3) := by decide +kernel
theorem dX6_init_176 : decode cX6_init 176 = .ok (.return_, 1) := by decide +kernel
theorem dX6_thrown_0 : decode cX6_thrown 0 = .ok (.aload_n 0, 1) := by decide +kernel
theorem dX6_thrown_1 : decode cX6_thrown 1 = .ok (.getfield 74, 3) := by decide +kernel
theorem dX6_thrown_4 : decode cX6_thrown 4 = .ok (.ireturn, 1) := by decide +kernel
theorem dX6_fails_0 : decode cX6_fails 0 = .ok (.aload_n 0, 1) := by decide +kernel
theorem dX6_fails_1 : decode cX6_fails 1 = .ok (.iload_n 1, 1) := by decide +kernel
theorem dX6_fails_2 : decode cX6_fails 2 = .ok (.putfield 74, 3) := by decide +kernel
theorem dX6_fails_5 : decode cX6_fails 5 = .ok (.iconst 0, 1) := by decide +kernel
theorem dX6_fails_6 : decode cX6_fails 6 = .ok (.ireturn, 1) := by decide +kernel
theorem dX6_in_0 : decode cX6_in 0 = .ok (.iload_n 0, 1) := by decide +kernel
theorem dX6_in_1 : decode cX6_in 1 = .ok (.iload_n 1, 1) := by decide +kernel
theorem dX6_in_2 : decode cX6_in 2 = .ok (.if_icmp .lt 12, 3) := by decide +kernel
theorem dX6_in_5 : decode cX6_in 5 = .ok (.iload_n 0, 1) := by decide +kernel
theorem dX6_in_6 : decode cX6_in 6 = .ok (.iload_n 2, 1) := by decide +kernel
theorem dX6_in_7 : decode cX6_in 7 = .ok (.if_icmp .gt 7, 3) := by decide +kernel
theorem dX6_in_10 : decode cX6_in 10 = .ok (.iconst 1, 1) := by decide +kernel
theorem dX6_in_11 : decode cX6_in 11 = .ok (.goto 4, 3) := by decide +kernel
theorem dX6_in_14 : decode cX6_in 14 = .ok (.iconst 0, 1) := by decide +kernel
theorem dX6_in_15 : decode cX6_in 15 = .ok (.ireturn, 1) := by decide +kernel
theorem dX6_isMachine_0 : decode cX6_isMachine 0 = .ok (.iload_n 1, 1) := by decide +kernel
theorem dX6_isMachine_1 : decode cX6_isMachine 1 = .ok (.iconst 0, 1) := by decide +kernel
theorem dX6_isMachine_2 : decode cX6_isMachine 2 = .ok (.aload_n 0, 1) := by decide +kernel
theorem dX6_isMachine_3 : decode cX6_isMachine 3 = .ok (.getfield 78, 3) := by decide +kernel
theorem dX6_isMachine_6 : decode cX6_isMachine 6 = .ok (.iconst 1, 1) := by decide +kernel
theorem dX6_isMachine_7 : decode cX6_isMachine 7 = .ok (.isub, 1) := by decide +kernel
theorem dX6_isMachine_8 : decode cX6_isMachine 8 = .ok (.invokestatic 81, 3) := by decide +kernel
theorem dX6_isMachine_11 : decode cX6_isMachine 11 = .ok (.ireturn, 1) := by decide +kernel
theorem dX6_isJob_0 : decode cX6_isJob 0 = .ok (.iload_n 1, 1) := by decide +kernel
theorem dX6_isJob_1 : decode cX6_isJob 1 = .ok (.iconst 0, 1) := by decide +kernel
theorem dX6_isJob_2 : decode cX6_isJob 2 = .ok (.aload_n 0, 1) := by decide +kernel
theorem dX6_isJob_3 : decode cX6_isJob 3 = .ok (.getfield 85, 3) := by decide +kernel
theorem dX6_isJob_6 : decode cX6_isJob 6 = .ok (.iconst 1, 1) := by decide +kernel
theorem dX6_isJob_7 : decode cX6_isJob 7 = .ok (.isub, 1) := by decide +kernel
theorem dX6_isJob_8 : decode cX6_isJob 8 = .ok (.invokestatic 81, 3) := by decide +kernel
theorem dX6_isJob_11 : decode cX6_isJob 11 = .ok (.ireturn, 1) := by decide +kernel
theorem dX6_setup_0 : decode cX6_setup 0 = .ok (.aload_n 0, 1) := by decide +kernel
theorem dX6_setup_1 : decode cX6_setup 1 = .ok (.getfield 47, 3) := by decide +kernel
theorem dX6_setup_4 : decode cX6_setup 4 = .ok (.iconst 4, 1) := by decide +kernel
theorem dX6_setup_5 : decode cX6_setup 5 = .ok (.iload_n 1, 1) := by decide +kernel
theorem dX6_setup_6 : decode cX6_setup 6 = .ok (.imul, 1) := by decide +kernel
theorem dX6_setup_7 : decode cX6_setup 7 = .ok (.iload_n 2, 1) := by decide +kernel
theorem dX6_setup_8 : decode cX6_setup 8 = .ok (.iadd, 1) := by decide +kernel
theorem dX6_setup_9 : decode cX6_setup 9 = .ok (.iaload, 1) := by decide +kernel
theorem dX6_setup_10 : decode cX6_setup 10 = .ok (.ireturn, 1) := by decide +kernel
theorem dX6_lays_0 : decode cX6_lays 0 = .ok (.iconst 0, 1) := by decide +kernel
theorem dX6_lays_1 : decode cX6_lays 1 = .ok (.istore_n 1, 1) := by decide +kernel
theorem dX6_lays_2 : decode cX6_lays 2 = .ok (.iload_n 1, 1) := by decide +kernel
theorem dX6_lays_3 : decode cX6_lays 3 = .ok (.bipush 32, 2) := by decide +kernel
theorem dX6_lays_5 : decode cX6_lays 5 = .ok (.if_icmp .ge 37, 3) := by decide +kernel
theorem dX6_lays_8 : decode cX6_lays 8 = .ok (.aload_n 0, 1) := by decide +kernel
theorem dX6_lays_9 : decode cX6_lays 9 = .ok (.getfield 50, 3) := by decide +kernel
theorem dX6_lays_12 : decode cX6_lays 12 = .ok (.iload_n 1, 1) := by decide +kernel
theorem dX6_lays_13 : decode cX6_lays 13 = .ok (.iconst 0, 1) := by decide +kernel
theorem dX6_lays_14 : decode cX6_lays 14 = .ok (.bastore, 1) := by decide +kernel
theorem dX6_lays_15 : decode cX6_lays 15 = .ok (.aload_n 0, 1) := by decide +kernel
theorem dX6_lays_16 : decode cX6_lays 16 = .ok (.getfield 53, 3) := by decide +kernel
theorem dX6_lays_19 : decode cX6_lays 19 = .ok (.iload_n 1, 1) := by decide +kernel
theorem dX6_lays_20 : decode cX6_lays 20 = .ok (.iconst (-1), 1) := by decide +kernel
theorem dX6_lays_21 : decode cX6_lays 21 = .ok (.iastore, 1) := by decide +kernel
theorem dX6_lays_22 : decode cX6_lays 22 = .ok (.aload_n 0, 1) := by decide +kernel
theorem dX6_lays_23 : decode cX6_lays 23 = .ok (.getfield 56, 3) := by decide +kernel
theorem dX6_lays_26 : decode cX6_lays 26 = .ok (.iload_n 1, 1) := by decide +kernel
theorem dX6_lays_27 : decode cX6_lays 27 = .ok (.iconst (-1), 1) := by decide +kernel
theorem dX6_lays_28 : decode cX6_lays 28 = .ok (.iastore, 1) := by decide +kernel
theorem dX6_lays_29 : decode cX6_lays 29 = .ok (.aload_n 0, 1) := by decide +kernel
theorem dX6_lays_30 : decode cX6_lays 30 = .ok (.getfield 59, 3) := by decide +kernel
theorem dX6_lays_33 : decode cX6_lays 33 = .ok (.iload_n 1, 1) := by decide +kernel
theorem dX6_lays_34 : decode cX6_lays 34 = .ok (.iconst 0, 1) := by decide +kernel
theorem dX6_lays_35 : decode cX6_lays 35 = .ok (.iastore, 1) := by decide +kernel
theorem dX6_lays_36 : decode cX6_lays 36 = .ok (.iinc 1 1, 3) := by decide +kernel
theorem dX6_lays_39 : decode cX6_lays 39 = .ok (.goto (-37), 3) := by decide +kernel
theorem dX6_lays_42 : decode cX6_lays 42 = .ok (.iconst 0, 1) := by decide +kernel
theorem dX6_lays_43 : decode cX6_lays 43 = .ok (.istore_n 1, 1) := by decide +kernel
theorem dX6_lays_44 : decode cX6_lays 44 = .ok (.iload_n 1, 1) := by decide +kernel
theorem dX6_lays_45 : decode cX6_lays 45 = .ok (.aload_n 0, 1) := by decide +kernel
theorem dX6_lays_46 : decode cX6_lays 46 = .ok (.getfield 78, 3) := by decide +kernel
theorem dX6_lays_49 : decode cX6_lays 49 = .ok (.if_icmp .ge 108, 3) := by decide +kernel
theorem dX6_lays_52 : decode cX6_lays 52 = .ok (.iconst 0, 1) := by decide +kernel
theorem dX6_lays_53 : decode cX6_lays 53 = .ok (.istore_n 2, 1) := by decide +kernel
theorem dX6_lays_54 : decode cX6_lays 54 = .ok (.iload_n 2, 1) := by decide +kernel
theorem dX6_lays_55 : decode cX6_lays 55 = .ok (.aload_n 0, 1) := by decide +kernel
theorem dX6_lays_56 : decode cX6_lays 56 = .ok (.getfield 19, 3) := by decide +kernel
theorem dX6_lays_59 : decode cX6_lays 59 = .ok (.iload_n 1, 1) := by decide +kernel
theorem dX6_lays_60 : decode cX6_lays 60 = .ok (.iaload, 1) := by decide +kernel
theorem dX6_lays_61 : decode cX6_lays 61 = .ok (.if_icmp .ge 90, 3) := by decide +kernel
theorem dX6_lays_64 : decode cX6_lays 64 = .ok (.aload_n 0, 1) := by decide +kernel
theorem dX6_lays_65 : decode cX6_lays 65 = .ok (.getfield 22, 3) := by decide +kernel
theorem dX6_lays_68 : decode cX6_lays 68 = .ok (.bipush 32, 2) := by decide +kernel
theorem dX6_lays_70 : decode cX6_lays 70 = .ok (.iload_n 1, 1) := by decide +kernel
theorem dX6_lays_71 : decode cX6_lays 71 = .ok (.imul, 1) := by decide +kernel
theorem dX6_lays_72 : decode cX6_lays 72 = .ok (.iload_n 2, 1) := by decide +kernel
theorem dX6_lays_73 : decode cX6_lays 73 = .ok (.iadd, 1) := by decide +kernel
theorem dX6_lays_74 : decode cX6_lays 74 = .ok (.iaload, 1) := by decide +kernel
theorem dX6_lays_75 : decode cX6_lays 75 = .ok (.istore_n 3, 1) := by decide +kernel
theorem dX6_lays_76 : decode cX6_lays 76 = .ok (.aload_n 0, 1) := by decide +kernel
theorem dX6_lays_77 : decode cX6_lays 77 = .ok (.getfield 50, 3) := by decide +kernel
theorem dX6_lays_80 : decode cX6_lays 80 = .ok (.iload_n 3, 1) := by decide +kernel
theorem dX6_lays_81 : decode cX6_lays 81 = .ok (.iconst 1, 1) := by decide +kernel
theorem dX6_lays_82 : decode cX6_lays 82 = .ok (.bastore, 1) := by decide +kernel
theorem dX6_lays_83 : decode cX6_lays 83 = .ok (.aload_n 0, 1) := by decide +kernel
theorem dX6_lays_84 : decode cX6_lays 84 = .ok (.getfield 53, 3) := by decide +kernel
theorem dX6_lays_87 : decode cX6_lays 87 = .ok (.iload_n 3, 1) := by decide +kernel
theorem dX6_lays_88 : decode cX6_lays 88 = .ok (.iload_n 2, 1) := by decide +kernel
theorem dX6_lays_89 : decode cX6_lays 89 = .ok (.ifCond .ne 7, 3) := by decide +kernel
theorem dX6_lays_92 : decode cX6_lays 92 = .ok (.iconst (-1), 1) := by decide +kernel
theorem dX6_lays_93 : decode cX6_lays 93 = .ok (.goto 16, 3) := by decide +kernel
theorem dX6_lays_96 : decode cX6_lays 96 = .ok (.aload_n 0, 1) := by decide +kernel
theorem dX6_lays_97 : decode cX6_lays 97 = .ok (.getfield 22, 3) := by decide +kernel
theorem dX6_lays_100 : decode cX6_lays 100 = .ok (.bipush 32, 2) := by decide +kernel
theorem dX6_lays_102 : decode cX6_lays 102 = .ok (.iload_n 1, 1) := by decide +kernel
theorem dX6_lays_103 : decode cX6_lays 103 = .ok (.imul, 1) := by decide +kernel
theorem dX6_lays_104 : decode cX6_lays 104 = .ok (.iload_n 2, 1) := by decide +kernel
theorem dX6_lays_105 : decode cX6_lays 105 = .ok (.iadd, 1) := by decide +kernel
theorem dX6_lays_106 : decode cX6_lays 106 = .ok (.iconst 1, 1) := by decide +kernel
theorem dX6_lays_107 : decode cX6_lays 107 = .ok (.isub, 1) := by decide +kernel
theorem dX6_lays_108 : decode cX6_lays 108 = .ok (.iaload, 1) := by decide +kernel
theorem dX6_lays_109 : decode cX6_lays 109 = .ok (.iastore, 1) := by decide +kernel
theorem dX6_lays_110 : decode cX6_lays 110 = .ok (.aload_n 0, 1) := by decide +kernel
theorem dX6_lays_111 : decode cX6_lays 111 = .ok (.getfield 56, 3) := by decide +kernel
theorem dX6_lays_114 : decode cX6_lays 114 = .ok (.iload_n 3, 1) := by decide +kernel
theorem dX6_lays_115 : decode cX6_lays 115 = .ok (.iload_n 2, 1) := by decide +kernel
theorem dX6_lays_116 : decode cX6_lays 116 = .ok (.aload_n 0, 1) := by decide +kernel
theorem dX6_lays_117 : decode cX6_lays 117 = .ok (.getfield 19, 3) := by decide +kernel
theorem dX6_lays_120 : decode cX6_lays 120 = .ok (.iload_n 1, 1) := by decide +kernel
theorem dX6_lays_121 : decode cX6_lays 121 = .ok (.iaload, 1) := by decide +kernel
theorem dX6_lays_122 : decode cX6_lays 122 = .ok (.iconst 1, 1) := by decide +kernel
theorem dX6_lays_123 : decode cX6_lays 123 = .ok (.isub, 1) := by decide +kernel
theorem dX6_lays_124 : decode cX6_lays 124 = .ok (.if_icmp .ne 7, 3) := by decide +kernel
theorem dX6_lays_127 : decode cX6_lays 127 = .ok (.iconst (-1), 1) := by decide +kernel
theorem dX6_lays_128 : decode cX6_lays 128 = .ok (.goto 16, 3) := by decide +kernel
theorem dX6_lays_131 : decode cX6_lays 131 = .ok (.aload_n 0, 1) := by decide +kernel
theorem dX6_lays_132 : decode cX6_lays 132 = .ok (.getfield 22, 3) := by decide +kernel
theorem dX6_lays_135 : decode cX6_lays 135 = .ok (.bipush 32, 2) := by decide +kernel
theorem dX6_lays_137 : decode cX6_lays 137 = .ok (.iload_n 1, 1) := by decide +kernel
theorem dX6_lays_138 : decode cX6_lays 138 = .ok (.imul, 1) := by decide +kernel
theorem dX6_lays_139 : decode cX6_lays 139 = .ok (.iload_n 2, 1) := by decide +kernel
theorem dX6_lays_140 : decode cX6_lays 140 = .ok (.iadd, 1) := by decide +kernel
theorem dX6_lays_141 : decode cX6_lays 141 = .ok (.iconst 1, 1) := by decide +kernel
theorem dX6_lays_142 : decode cX6_lays 142 = .ok (.iadd, 1) := by decide +kernel
theorem dX6_lays_143 : decode cX6_lays 143 = .ok (.iaload, 1) := by decide +kernel
theorem dX6_lays_144 : decode cX6_lays 144 = .ok (.iastore, 1) := by decide +kernel
theorem dX6_lays_145 : decode cX6_lays 145 = .ok (.iinc 2 1, 3) := by decide +kernel
theorem dX6_lays_148 : decode cX6_lays 148 = .ok (.goto (-94), 3) := by decide +kernel
theorem dX6_lays_151 : decode cX6_lays 151 = .ok (.iinc 1 1, 3) := by decide +kernel
theorem dX6_lays_154 : decode cX6_lays 154 = .ok (.goto (-110), 3) := by decide +kernel
theorem dX6_lays_157 : decode cX6_lays 157 = .ok (.return_, 1) := by decide +kernel
theorem dX6_finish_0 : decode cX6_finish 0 = .ok (.aload_n 0, 1) := by decide +kernel
theorem dX6_finish_1 : decode cX6_finish 1 = .ok (.getfield 59, 3) := by decide +kernel
theorem dX6_finish_4 : decode cX6_finish 4 = .ok (.iload_n 1, 1) := by decide +kernel
theorem dX6_finish_5 : decode cX6_finish 5 = .ok (.iaload, 1) := by decide +kernel
theorem dX6_finish_6 : decode cX6_finish 6 = .ok (.aload_n 0, 1) := by decide +kernel
theorem dX6_finish_7 : decode cX6_finish 7 = .ok (.getfield 38, 3) := by decide +kernel
theorem dX6_finish_10 : decode cX6_finish 10 = .ok (.iload_n 1, 1) := by decide +kernel
theorem dX6_finish_11 : decode cX6_finish 11 = .ok (.iaload, 1) := by decide +kernel
theorem dX6_finish_12 : decode cX6_finish 12 = .ok (.iadd, 1) := by decide +kernel
theorem dX6_finish_13 : decode cX6_finish 13 = .ok (.ireturn, 1) := by decide +kernel
theorem dX6_beside_0 : decode cX6_beside 0 = .ok (.iload_n 1, 1) := by decide +kernel
theorem dX6_beside_1 : decode cX6_beside 1 = .ok (.iload_n 2, 1) := by decide +kernel
theorem dX6_beside_2 : decode cX6_beside 2 = .ok (.iadd, 1) := by decide +kernel
theorem dX6_beside_3 : decode cX6_beside 3 = .ok (.istore_n 3, 1) := by decide +kernel
theorem dX6_beside_4 : decode cX6_beside 4 = .ok (.iload_n 3, 1) := by decide +kernel
theorem dX6_beside_5 : decode cX6_beside 5 = .ok (.iconst 0, 1) := by decide +kernel
theorem dX6_beside_6 : decode cX6_beside 6 = .ok (.bipush 31, 2) := by decide +kernel
theorem dX6_beside_8 : decode cX6_beside 8 = .ok (.invokestatic 81, 3) := by decide +kernel
theorem dX6_beside_11 : decode cX6_beside 11 = .ok (.ifCond .eq 25, 3) := by decide +kernel
theorem dX6_beside_14 : decode cX6_beside 14 = .ok (.iload_n 3, 1) := by decide +kernel
theorem dX6_beside_15 : decode cX6_beside 15 = .ok (.iconst 4, 1) := by decide +kernel
theorem dX6_beside_16 : decode cX6_beside 16 = .ok (.idiv, 1) := by decide +kernel
theorem dX6_beside_17 : decode cX6_beside 17 = .ok (.iload_n 1, 1) := by decide +kernel
theorem dX6_beside_18 : decode cX6_beside 18 = .ok (.iconst 4, 1) := by decide +kernel
theorem dX6_beside_19 : decode cX6_beside 19 = .ok (.idiv, 1) := by decide +kernel
theorem dX6_beside_20 : decode cX6_beside 20 = .ok (.if_icmp .ne 16, 3) := by decide +kernel
theorem dX6_beside_23 : decode cX6_beside 23 = .ok (.aload_n 0, 1) := by decide +kernel
theorem dX6_beside_24 : decode cX6_beside 24 = .ok (.getfield 50, 3) := by decide +kernel
theorem dX6_beside_27 : decode cX6_beside 27 = .ok (.iload_n 3, 1) := by decide +kernel
theorem dX6_beside_28 : decode cX6_beside 28 = .ok (.baload, 1) := by decide +kernel
theorem dX6_beside_29 : decode cX6_beside 29 = .ok (.ifCond .eq 7, 3) := by decide +kernel
theorem dX6_beside_32 : decode cX6_beside 32 = .ok (.iload_n 3, 1) := by decide +kernel
theorem dX6_beside_33 : decode cX6_beside 33 = .ok (.goto 4, 3) := by decide +kernel
theorem dX6_beside_36 : decode cX6_beside 36 = .ok (.iconst (-1), 1) := by decide +kernel
theorem dX6_beside_37 : decode cX6_beside 37 = .ok (.ireturn, 1) := by decide +kernel
theorem dX6_waits_0 : decode cX6_waits 0 = .ok (.aload_n 0, 1) := by decide +kernel
theorem dX6_waits_1 : decode cX6_waits 1 = .ok (.getfield 35, 3) := by decide +kernel
theorem dX6_waits_4 : decode cX6_waits 4 = .ok (.iload_n 1, 1) := by decide +kernel
theorem dX6_waits_5 : decode cX6_waits 5 = .ok (.iaload, 1) := by decide +kernel
theorem dX6_waits_6 : decode cX6_waits 6 = .ok (.istore_n 2, 1) := by decide +kernel
theorem dX6_waits_7 : decode cX6_waits 7 = .ok (.aload_n 0, 1) := by decide +kernel
theorem dX6_waits_8 : decode cX6_waits 8 = .ok (.iload_n 1, 1) := by decide +kernel
theorem dX6_waits_9 : decode cX6_waits 9 = .ok (.iconst (-1), 1) := by decide +kernel
theorem dX6_waits_10 : decode cX6_waits 10 = .ok (.invokevirtual 88, 3) := by decide +kernel
theorem dX6_waits_13 : decode cX6_waits 13 = .ok (.istore_n 3, 1) := by decide +kernel
theorem dX6_waits_14 : decode cX6_waits 14 = .ok (.iload_n 3, 1) := by decide +kernel
theorem dX6_waits_15 : decode cX6_waits 15 = .ok (.iconst (-1), 1) := by decide +kernel
theorem dX6_waits_16 : decode cX6_waits 16 = .ok (.if_icmp .ne 7, 3) := by decide +kernel
theorem dX6_waits_19 : decode cX6_waits 19 = .ok (.iconst 0, 1) := by decide +kernel
theorem dX6_waits_20 : decode cX6_waits 20 = .ok (.goto 8, 3) := by decide +kernel
theorem dX6_waits_23 : decode cX6_waits 23 = .ok (.aload_n 0, 1) := by decide +kernel
theorem dX6_waits_24 : decode cX6_waits 24 = .ok (.iload_n 3, 1) := by decide +kernel
theorem dX6_waits_25 : decode cX6_waits 25 = .ok (.invokevirtual 92, 3) := by decide +kernel
theorem dX6_waits_28 : decode cX6_waits 28 = .ok (.istore 4, 2) := by decide +kernel
theorem dX6_waits_30 : decode cX6_waits 30 = .ok (.aload_n 0, 1) := by decide +kernel
theorem dX6_waits_31 : decode cX6_waits 31 = .ok (.getfield 53, 3) := by decide +kernel
theorem dX6_waits_34 : decode cX6_waits 34 = .ok (.iload_n 1, 1) := by decide +kernel
theorem dX6_waits_35 : decode cX6_waits 35 = .ok (.iaload, 1) := by decide +kernel
theorem dX6_waits_36 : decode cX6_waits 36 = .ok (.iconst (-1), 1) := by decide +kernel
theorem dX6_waits_37 : decode cX6_waits 37 = .ok (.if_icmp .ne 17, 3) := by decide +kernel
theorem dX6_waits_40 : decode cX6_waits 40 = .ok (.aload_n 0, 1) := by decide +kernel
theorem dX6_waits_41 : decode cX6_waits 41 = .ok (.iconst 0, 1) := by decide +kernel
theorem dX6_waits_42 : decode cX6_waits 42 = .ok (.aload_n 0, 1) := by decide +kernel
theorem dX6_waits_43 : decode cX6_waits 43 = .ok (.getfield 41, 3) := by decide +kernel
theorem dX6_waits_46 : decode cX6_waits 46 = .ok (.iload_n 1, 1) := by decide +kernel
theorem dX6_waits_47 : decode cX6_waits 47 = .ok (.iaload, 1) := by decide +kernel
theorem dX6_waits_48 : decode cX6_waits 48 = .ok (.invokevirtual 96, 3) := by decide +kernel
theorem dX6_waits_51 : decode cX6_waits 51 = .ok (.goto 35, 3) := by decide +kernel
theorem dX6_waits_54 : decode cX6_waits 54 = .ok (.aload_n 0, 1) := by decide +kernel
theorem dX6_waits_55 : decode cX6_waits 55 = .ok (.aload_n 0, 1) := by decide +kernel
theorem dX6_waits_56 : decode cX6_waits 56 = .ok (.getfield 53, 3) := by decide +kernel
theorem dX6_waits_59 : decode cX6_waits 59 = .ok (.iload_n 1, 1) := by decide +kernel
theorem dX6_waits_60 : decode cX6_waits 60 = .ok (.iaload, 1) := by decide +kernel
theorem dX6_waits_61 : decode cX6_waits 61 = .ok (.invokevirtual 92, 3) := by decide +kernel
theorem dX6_waits_64 : decode cX6_waits 64 = .ok (.aload_n 0, 1) := by decide +kernel
theorem dX6_waits_65 : decode cX6_waits 65 = .ok (.aload_n 0, 1) := by decide +kernel
theorem dX6_waits_66 : decode cX6_waits 66 = .ok (.getfield 41, 3) := by decide +kernel
theorem dX6_waits_69 : decode cX6_waits 69 = .ok (.aload_n 0, 1) := by decide +kernel
theorem dX6_waits_70 : decode cX6_waits 70 = .ok (.getfield 53, 3) := by decide +kernel
theorem dX6_waits_73 : decode cX6_waits 73 = .ok (.iload_n 1, 1) := by decide +kernel
theorem dX6_waits_74 : decode cX6_waits 74 = .ok (.iaload, 1) := by decide +kernel
theorem dX6_waits_75 : decode cX6_waits 75 = .ok (.iaload, 1) := by decide +kernel
theorem dX6_waits_76 : decode cX6_waits 76 = .ok (.aload_n 0, 1) := by decide +kernel
theorem dX6_waits_77 : decode cX6_waits 77 = .ok (.getfield 41, 3) := by decide +kernel
theorem dX6_waits_80 : decode cX6_waits 80 = .ok (.iload_n 1, 1) := by decide +kernel
theorem dX6_waits_81 : decode cX6_waits 81 = .ok (.iaload, 1) := by decide +kernel
theorem dX6_waits_82 : decode cX6_waits 82 = .ok (.invokevirtual 96, 3) := by decide +kernel
theorem dX6_waits_85 : decode cX6_waits 85 = .ok (.iadd, 1) := by decide +kernel
theorem dX6_waits_86 : decode cX6_waits 86 = .ok (.istore 5, 2) := by decide +kernel
theorem dX6_waits_88 : decode cX6_waits 88 = .ok (.iload 5, 2) := by decide +kernel
theorem dX6_waits_90 : decode cX6_waits 90 = .ok (.iload 4, 2) := by decide +kernel
theorem dX6_waits_92 : decode cX6_waits 92 = .ok (.if_icmp .le 8, 3) := by decide +kernel
theorem dX6_waits_95 : decode cX6_waits 95 = .ok (.iload 5, 2) := by decide +kernel
theorem dX6_waits_97 : decode cX6_waits 97 = .ok (.goto 5, 3) := by decide +kernel
theorem dX6_waits_100 : decode cX6_waits 100 = .ok (.iload 4, 2) := by decide +kernel
theorem dX6_waits_102 : decode cX6_waits 102 = .ok (.istore 4, 2) := by decide +kernel
theorem dX6_waits_104 : decode cX6_waits 104 = .ok (.iload 4, 2) := by decide +kernel
theorem dX6_waits_106 : decode cX6_waits 106 = .ok (.aload_n 0, 1) := by decide +kernel
theorem dX6_waits_107 : decode cX6_waits 107 = .ok (.getfield 16, 3) := by decide +kernel
theorem dX6_waits_110 : decode cX6_waits 110 = .ok (.iload_n 2, 1) := by decide +kernel
theorem dX6_waits_111 : decode cX6_waits 111 = .ok (.iaload, 1) := by decide +kernel
theorem dX6_waits_112 : decode cX6_waits 112 = .ok (.if_icmp .ge 30, 3) := by decide +kernel
theorem dX6_waits_115 : decode cX6_waits 115 = .ok (.iload 4, 2) := by decide +kernel
theorem dX6_waits_117 : decode cX6_waits 117 = .ok (.aload_n 0, 1) := by decide +kernel
theorem dX6_waits_118 : decode cX6_waits 118 = .ok (.getfield 38, 3) := by decide +kernel
theorem dX6_waits_121 : decode cX6_waits 121 = .ok (.iload_n 1, 1) := by decide +kernel
theorem dX6_waits_122 : decode cX6_waits 122 = .ok (.iaload, 1) := by decide +kernel
theorem dX6_waits_123 : decode cX6_waits 123 = .ok (.iadd, 1) := by decide +kernel
theorem dX6_waits_124 : decode cX6_waits 124 = .ok (.aload_n 0, 1) := by decide +kernel
theorem dX6_waits_125 : decode cX6_waits 125 = .ok (.getfield 13, 3) := by decide +kernel
theorem dX6_waits_128 : decode cX6_waits 128 = .ok (.iload_n 2, 1) := by decide +kernel
theorem dX6_waits_129 : decode cX6_waits 129 = .ok (.iaload, 1) := by decide +kernel
theorem dX6_waits_130 : decode cX6_waits 130 = .ok (.if_icmp .le 12, 3) := by decide +kernel
theorem dX6_waits_133 : decode cX6_waits 133 = .ok (.aload_n 0, 1) := by decide +kernel
theorem dX6_waits_134 : decode cX6_waits 134 = .ok (.getfield 16, 3) := by decide +kernel
theorem dX6_waits_137 : decode cX6_waits 137 = .ok (.iload_n 2, 1) := by decide +kernel
theorem dX6_waits_138 : decode cX6_waits 138 = .ok (.iaload, 1) := by decide +kernel
theorem dX6_waits_139 : decode cX6_waits 139 = .ok (.goto 5, 3) := by decide +kernel
theorem dX6_waits_142 : decode cX6_waits 142 = .ok (.iload 4, 2) := by decide +kernel
theorem dX6_waits_144 : decode cX6_waits 144 = .ok (.ireturn, 1) := by decide +kernel
theorem dX6_works_0 : decode cX6_works 0 = .ok (.aload_n 0, 1) := by decide +kernel
theorem dX6_works_1 : decode cX6_works 1 = .ok (.invokevirtual 99, 3) := by decide +kernel
theorem dX6_works_4 : decode cX6_works 4 = .ok (.iconst 1, 1) := by decide +kernel
theorem dX6_works_5 : decode cX6_works 5 = .ok (.istore_n 1, 1) := by decide +kernel
theorem dX6_works_6 : decode cX6_works 6 = .ok (.iconst 0, 1) := by decide +kernel
theorem dX6_works_7 : decode cX6_works 7 = .ok (.istore_n 2, 1) := by decide +kernel
theorem dX6_works_8 : decode cX6_works 8 = .ok (.iload_n 1, 1) := by decide +kernel
theorem dX6_works_9 : decode cX6_works 9 = .ok (.ifCond .eq 80, 3) := by decide +kernel
theorem dX6_works_12 : decode cX6_works 12 = .ok (.iload_n 2, 1) := by decide +kernel
theorem dX6_works_13 : decode cX6_works 13 = .ok (.bipush 32, 2) := by decide +kernel
theorem dX6_works_15 : decode cX6_works 15 = .ok (.if_icmp .gt 74, 3) := by decide +kernel
theorem dX6_works_18 : decode cX6_works 18 = .ok (.iconst 0, 1) := by decide +kernel
theorem dX6_works_19 : decode cX6_works 19 = .ok (.istore_n 1, 1) := by decide +kernel
theorem dX6_works_20 : decode cX6_works 20 = .ok (.iinc 2 1, 3) := by decide +kernel
theorem dX6_works_23 : decode cX6_works 23 = .ok (.iconst 0, 1) := by decide +kernel
theorem dX6_works_24 : decode cX6_works 24 = .ok (.istore_n 3, 1) := by decide +kernel
theorem dX6_works_25 : decode cX6_works 25 = .ok (.iload_n 3, 1) := by decide +kernel
theorem dX6_works_26 : decode cX6_works 26 = .ok (.bipush 32, 2) := by decide +kernel
theorem dX6_works_28 : decode cX6_works 28 = .ok (.if_icmp .ge 58, 3) := by decide +kernel
theorem dX6_works_31 : decode cX6_works 31 = .ok (.aload_n 0, 1) := by decide +kernel
theorem dX6_works_32 : decode cX6_works 32 = .ok (.getfield 50, 3) := by decide +kernel
theorem dX6_works_35 : decode cX6_works 35 = .ok (.iload_n 3, 1) := by decide +kernel
theorem dX6_works_36 : decode cX6_works 36 = .ok (.baload, 1) := by decide +kernel
theorem dX6_works_37 : decode cX6_works 37 = .ok (.ifCond .eq 11, 3) := by decide +kernel
theorem dX6_works_40 : decode cX6_works 40 = .ok (.aload_n 0, 1) := by decide +kernel
theorem dX6_works_41 : decode cX6_works 41 = .ok (.iload_n 3, 1) := by decide +kernel
theorem dX6_works_42 : decode cX6_works 42 = .ok (.invokevirtual 102, 3) := by decide +kernel
theorem dX6_works_45 : decode cX6_works 45 = .ok (.goto 4, 3) := by decide +kernel
theorem dX6_works_48 : decode cX6_works 48 = .ok (.iconst 0, 1) := by decide +kernel
theorem dX6_works_49 : decode cX6_works 49 = .ok (.istore 4, 2) := by decide +kernel
theorem dX6_works_51 : decode cX6_works 51 = .ok (.iload_n 1, 1) := by decide +kernel
theorem dX6_works_52 : decode cX6_works 52 = .ok (.ifCond .ne 14, 3) := by decide +kernel
theorem dX6_works_55 : decode cX6_works 55 = .ok (.iload 4, 2) := by decide +kernel
theorem dX6_works_57 : decode cX6_works 57 = .ok (.aload_n 0, 1) := by decide +kernel
theorem dX6_works_58 : decode cX6_works 58 = .ok (.getfield 59, 3) := by decide +kernel
theorem dX6_works_61 : decode cX6_works 61 = .ok (.iload_n 3, 1) := by decide +kernel
theorem dX6_works_62 : decode cX6_works 62 = .ok (.iaload, 1) := by decide +kernel
theorem dX6_works_63 : decode cX6_works 63 = .ok (.if_icmp .eq 7, 3) := by decide +kernel
theorem dX6_works_66 : decode cX6_works 66 = .ok (.iconst 1, 1) := by decide +kernel
theorem dX6_works_67 : decode cX6_works 67 = .ok (.goto 4, 3) := by decide +kernel
theorem dX6_works_70 : decode cX6_works 70 = .ok (.iconst 0, 1) := by decide +kernel
theorem dX6_works_71 : decode cX6_works 71 = .ok (.istore_n 1, 1) := by decide +kernel
theorem dX6_works_72 : decode cX6_works 72 = .ok (.aload_n 0, 1) := by decide +kernel
theorem dX6_works_73 : decode cX6_works 73 = .ok (.getfield 59, 3) := by decide +kernel
theorem dX6_works_76 : decode cX6_works 76 = .ok (.iload_n 3, 1) := by decide +kernel
theorem dX6_works_77 : decode cX6_works 77 = .ok (.iload 4, 2) := by decide +kernel
theorem dX6_works_79 : decode cX6_works 79 = .ok (.iastore, 1) := by decide +kernel
theorem dX6_works_80 : decode cX6_works 80 = .ok (.iinc 3 1, 3) := by decide +kernel
theorem dX6_works_83 : decode cX6_works 83 = .ok (.goto (-58), 3) := by decide +kernel
theorem dX6_works_86 : decode cX6_works 86 = .ok (.goto (-78), 3) := by decide +kernel
theorem dX6_works_89 : decode cX6_works 89 = .ok (.iload_n 1, 1) := by decide +kernel
theorem dX6_works_90 : decode cX6_works 90 = .ok (.ifCond .ne 7, 3) := by decide +kernel
theorem dX6_works_93 : decode cX6_works 93 = .ok (.iconst 1, 1) := by decide +kernel
theorem dX6_works_94 : decode cX6_works 94 = .ok (.goto 4, 3) := by decide +kernel
theorem dX6_works_97 : decode cX6_works 97 = .ok (.iconst 0, 1) := by decide +kernel
theorem dX6_works_98 : decode cX6_works 98 = .ok (.ireturn, 1) := by decide +kernel
theorem dX6_spanNow_0 : decode cX6_spanNow 0 = .ok (.iconst 0, 1) := by decide +kernel
theorem dX6_spanNow_1 : decode cX6_spanNow 1 = .ok (.istore_n 1, 1) := by decide +kernel
theorem dX6_spanNow_2 : decode cX6_spanNow 2 = .ok (.iconst 0, 1) := by decide +kernel
theorem dX6_spanNow_3 : decode cX6_spanNow 3 = .ok (.istore_n 2, 1) := by decide +kernel
theorem dX6_spanNow_4 : decode cX6_spanNow 4 = .ok (.iload_n 2, 1) := by decide +kernel
theorem dX6_spanNow_5 : decode cX6_spanNow 5 = .ok (.bipush 32, 2) := by decide +kernel
theorem dX6_spanNow_7 : decode cX6_spanNow 7 = .ok (.if_icmp .ge 37, 3) := by decide +kernel
theorem dX6_spanNow_10 : decode cX6_spanNow 10 = .ok (.aload_n 0, 1) := by decide +kernel
theorem dX6_spanNow_11 : decode cX6_spanNow 11 = .ok (.getfield 50, 3) := by decide +kernel
theorem dX6_spanNow_14 : decode cX6_spanNow 14 = .ok (.iload_n 2, 1) := by decide +kernel
theorem dX6_spanNow_15 : decode cX6_spanNow 15 = .ok (.baload, 1) := by decide +kernel
theorem dX6_spanNow_16 : decode cX6_spanNow 16 = .ok (.ifCond .eq 20, 3) := by decide +kernel
theorem dX6_spanNow_19 : decode cX6_spanNow 19 = .ok (.aload_n 0, 1) := by decide +kernel
theorem dX6_spanNow_20 : decode cX6_spanNow 20 = .ok (.iload_n 2, 1) := by decide +kernel
theorem dX6_spanNow_21 : decode cX6_spanNow 21 = .ok (.invokevirtual 92, 3) := by decide +kernel
theorem dX6_spanNow_24 : decode cX6_spanNow 24 = .ok (.iload_n 1, 1) := by decide +kernel
theorem dX6_spanNow_25 : decode cX6_spanNow 25 = .ok (.if_icmp .le 11, 3) := by decide +kernel
theorem dX6_spanNow_28 : decode cX6_spanNow 28 = .ok (.aload_n 0, 1) := by decide +kernel
theorem dX6_spanNow_29 : decode cX6_spanNow 29 = .ok (.iload_n 2, 1) := by decide +kernel
theorem dX6_spanNow_30 : decode cX6_spanNow 30 = .ok (.invokevirtual 92, 3) := by decide +kernel
theorem dX6_spanNow_33 : decode cX6_spanNow 33 = .ok (.goto 4, 3) := by decide +kernel
theorem dX6_spanNow_36 : decode cX6_spanNow 36 = .ok (.iload_n 1, 1) := by decide +kernel
theorem dX6_spanNow_37 : decode cX6_spanNow 37 = .ok (.istore_n 1, 1) := by decide +kernel
theorem dX6_spanNow_38 : decode cX6_spanNow 38 = .ok (.iinc 2 1, 3) := by decide +kernel
theorem dX6_spanNow_41 : decode cX6_spanNow 41 = .ok (.goto (-37), 3) := by decide +kernel
theorem dX6_spanNow_44 : decode cX6_spanNow 44 = .ok (.iload_n 1, 1) := by decide +kernel
theorem dX6_spanNow_45 : decode cX6_spanNow 45 = .ok (.ireturn, 1) := by decide +kernel
theorem dX6_spanOf_0 : decode cX6_spanOf 0 = .ok (.aload_n 0, 1) := by decide +kernel
theorem dX6_spanOf_1 : decode cX6_spanOf 1 = .ok (.invokevirtual 105, 3) := by decide +kernel
theorem dX6_spanOf_4 : decode cX6_spanOf 4 = .ok (.pop, 1) := by decide +kernel
theorem dX6_spanOf_5 : decode cX6_spanOf 5 = .ok (.aload_n 0, 1) := by decide +kernel
theorem dX6_spanOf_6 : decode cX6_spanOf 6 = .ok (.invokevirtual 109, 3) := by decide +kernel
theorem dX6_spanOf_9 : decode cX6_spanOf 9 = .ok (.ireturn, 1) := by decide +kernel
theorem dX6_lasts_0 : decode cX6_lasts 0 = .ok (.aload_n 0, 1) := by decide +kernel
theorem dX6_lasts_1 : decode cX6_lasts 1 = .ok (.getfield 35, 3) := by decide +kernel
theorem dX6_lasts_4 : decode cX6_lasts 4 = .ok (.iload_n 1, 1) := by decide +kernel
theorem dX6_lasts_5 : decode cX6_lasts 5 = .ok (.iaload, 1) := by decide +kernel
theorem dX6_lasts_6 : decode cX6_lasts 6 = .ok (.istore_n 3, 1) := by decide +kernel
theorem dX6_lasts_7 : decode cX6_lasts 7 = .ok (.iload_n 2, 1) := by decide +kernel
theorem dX6_lasts_8 : decode cX6_lasts 8 = .ok (.istore 4, 2) := by decide +kernel
theorem dX6_lasts_10 : decode cX6_lasts 10 = .ok (.aload_n 0, 1) := by decide +kernel
theorem dX6_lasts_11 : decode cX6_lasts 11 = .ok (.iload_n 1, 1) := by decide +kernel
theorem dX6_lasts_12 : decode cX6_lasts 12 = .ok (.iconst 1, 1) := by decide +kernel
theorem dX6_lasts_13 : decode cX6_lasts 13 = .ok (.invokevirtual 88, 3) := by decide +kernel
theorem dX6_lasts_16 : decode cX6_lasts 16 = .ok (.istore 5, 2) := by decide +kernel
theorem dX6_lasts_18 : decode cX6_lasts 18 = .ok (.iload 5, 2) := by decide +kernel
theorem dX6_lasts_20 : decode cX6_lasts 20 = .ok (.iconst (-1), 1) := by decide +kernel
theorem dX6_lasts_21 : decode cX6_lasts 21 = .ok (.if_icmp .eq 24, 3) := by decide +kernel
theorem dX6_lasts_24 : decode cX6_lasts 24 = .ok (.aload_n 0, 1) := by decide +kernel
theorem dX6_lasts_25 : decode cX6_lasts 25 = .ok (.getfield 62, 3) := by decide +kernel
theorem dX6_lasts_28 : decode cX6_lasts 28 = .ok (.iload 5, 2) := by decide +kernel
theorem dX6_lasts_30 : decode cX6_lasts 30 = .ok (.iaload, 1) := by decide +kernel
theorem dX6_lasts_31 : decode cX6_lasts 31 = .ok (.iload 4, 2) := by decide +kernel
theorem dX6_lasts_33 : decode cX6_lasts 33 = .ok (.if_icmp .ge 12, 3) := by decide +kernel
theorem dX6_lasts_36 : decode cX6_lasts 36 = .ok (.aload_n 0, 1) := by decide +kernel
theorem dX6_lasts_37 : decode cX6_lasts 37 = .ok (.getfield 62, 3) := by decide +kernel
theorem dX6_lasts_40 : decode cX6_lasts 40 = .ok (.iload 5, 2) := by decide +kernel
theorem dX6_lasts_42 : decode cX6_lasts 42 = .ok (.iaload, 1) := by decide +kernel
theorem dX6_lasts_43 : decode cX6_lasts 43 = .ok (.istore 4, 2) := by decide +kernel
theorem dX6_lasts_45 : decode cX6_lasts 45 = .ok (.aload_n 0, 1) := by decide +kernel
theorem dX6_lasts_46 : decode cX6_lasts 46 = .ok (.getfield 56, 3) := by decide +kernel
theorem dX6_lasts_49 : decode cX6_lasts 49 = .ok (.iload_n 1, 1) := by decide +kernel
theorem dX6_lasts_50 : decode cX6_lasts 50 = .ok (.iaload, 1) := by decide +kernel
theorem dX6_lasts_51 : decode cX6_lasts 51 = .ok (.iconst (-1), 1) := by decide +kernel
theorem dX6_lasts_52 : decode cX6_lasts 52 = .ok (.if_icmp .eq 54, 3) := by decide +kernel
theorem dX6_lasts_55 : decode cX6_lasts 55 = .ok (.aload_n 0, 1) := by decide +kernel
theorem dX6_lasts_56 : decode cX6_lasts 56 = .ok (.getfield 62, 3) := by decide +kernel
theorem dX6_lasts_59 : decode cX6_lasts 59 = .ok (.aload_n 0, 1) := by decide +kernel
theorem dX6_lasts_60 : decode cX6_lasts 60 = .ok (.getfield 56, 3) := by decide +kernel
theorem dX6_lasts_63 : decode cX6_lasts 63 = .ok (.iload_n 1, 1) := by decide +kernel
theorem dX6_lasts_64 : decode cX6_lasts 64 = .ok (.iaload, 1) := by decide +kernel
theorem dX6_lasts_65 : decode cX6_lasts 65 = .ok (.iaload, 1) := by decide +kernel
theorem dX6_lasts_66 : decode cX6_lasts 66 = .ok (.aload_n 0, 1) := by decide +kernel
theorem dX6_lasts_67 : decode cX6_lasts 67 = .ok (.aload_n 0, 1) := by decide +kernel
theorem dX6_lasts_68 : decode cX6_lasts 68 = .ok (.getfield 41, 3) := by decide +kernel
theorem dX6_lasts_71 : decode cX6_lasts 71 = .ok (.iload_n 1, 1) := by decide +kernel
theorem dX6_lasts_72 : decode cX6_lasts 72 = .ok (.iaload, 1) := by decide +kernel
theorem dX6_lasts_73 : decode cX6_lasts 73 = .ok (.aload_n 0, 1) := by decide +kernel
theorem dX6_lasts_74 : decode cX6_lasts 74 = .ok (.getfield 41, 3) := by decide +kernel
theorem dX6_lasts_77 : decode cX6_lasts 77 = .ok (.aload_n 0, 1) := by decide +kernel
theorem dX6_lasts_78 : decode cX6_lasts 78 = .ok (.getfield 56, 3) := by decide +kernel
theorem dX6_lasts_81 : decode cX6_lasts 81 = .ok (.iload_n 1, 1) := by decide +kernel
theorem dX6_lasts_82 : decode cX6_lasts 82 = .ok (.iaload, 1) := by decide +kernel
theorem dX6_lasts_83 : decode cX6_lasts 83 = .ok (.iaload, 1) := by decide +kernel
theorem dX6_lasts_84 : decode cX6_lasts 84 = .ok (.invokevirtual 96, 3) := by decide +kernel
theorem dX6_lasts_87 : decode cX6_lasts 87 = .ok (.isub, 1) := by decide +kernel
theorem dX6_lasts_88 : decode cX6_lasts 88 = .ok (.istore 6, 2) := by decide +kernel
theorem dX6_lasts_90 : decode cX6_lasts 90 = .ok (.iload 6, 2) := by decide +kernel
theorem dX6_lasts_92 : decode cX6_lasts 92 = .ok (.iload 4, 2) := by decide +kernel
theorem dX6_lasts_94 : decode cX6_lasts 94 = .ok (.if_icmp .ge 8, 3) := by decide +kernel
theorem dX6_lasts_97 : decode cX6_lasts 97 = .ok (.iload 6, 2) := by decide +kernel
theorem dX6_lasts_99 : decode cX6_lasts 99 = .ok (.goto 5, 3) := by decide +kernel
theorem dX6_lasts_102 : decode cX6_lasts 102 = .ok (.iload 4, 2) := by decide +kernel
theorem dX6_lasts_104 : decode cX6_lasts 104 = .ok (.istore 4, 2) := by decide +kernel
theorem dX6_lasts_106 : decode cX6_lasts 106 = .ok (.iload 4, 2) := by decide +kernel
theorem dX6_lasts_108 : decode cX6_lasts 108 = .ok (.aload_n 0, 1) := by decide +kernel
theorem dX6_lasts_109 : decode cX6_lasts 109 = .ok (.getfield 38, 3) := by decide +kernel
theorem dX6_lasts_112 : decode cX6_lasts 112 = .ok (.iload_n 1, 1) := by decide +kernel
theorem dX6_lasts_113 : decode cX6_lasts 113 = .ok (.iaload, 1) := by decide +kernel
theorem dX6_lasts_114 : decode cX6_lasts 114 = .ok (.isub, 1) := by decide +kernel
theorem dX6_lasts_115 : decode cX6_lasts 115 = .ok (.istore 4, 2) := by decide +kernel
theorem dX6_lasts_117 : decode cX6_lasts 117 = .ok (.iload 4, 2) := by decide +kernel
theorem dX6_lasts_119 : decode cX6_lasts 119 = .ok (.aload_n 0, 1) := by decide +kernel
theorem dX6_lasts_120 : decode cX6_lasts 120 = .ok (.getfield 16, 3) := by decide +kernel
theorem dX6_lasts_123 : decode cX6_lasts 123 = .ok (.iload_n 3, 1) := by decide +kernel
theorem dX6_lasts_124 : decode cX6_lasts 124 = .ok (.iaload, 1) := by decide +kernel
theorem dX6_lasts_125 : decode cX6_lasts 125 = .ok (.if_icmp .ge 37, 3) := by decide +kernel
theorem dX6_lasts_128 : decode cX6_lasts 128 = .ok (.iload 4, 2) := by decide +kernel
theorem dX6_lasts_130 : decode cX6_lasts 130 = .ok (.aload_n 0, 1) := by decide +kernel
theorem dX6_lasts_131 : decode cX6_lasts 131 = .ok (.getfield 38, 3) := by decide +kernel
theorem dX6_lasts_134 : decode cX6_lasts 134 = .ok (.iload_n 1, 1) := by decide +kernel
theorem dX6_lasts_135 : decode cX6_lasts 135 = .ok (.iaload, 1) := by decide +kernel
theorem dX6_lasts_136 : decode cX6_lasts 136 = .ok (.iadd, 1) := by decide +kernel
theorem dX6_lasts_137 : decode cX6_lasts 137 = .ok (.aload_n 0, 1) := by decide +kernel
theorem dX6_lasts_138 : decode cX6_lasts 138 = .ok (.getfield 13, 3) := by decide +kernel
theorem dX6_lasts_141 : decode cX6_lasts 141 = .ok (.iload_n 3, 1) := by decide +kernel
theorem dX6_lasts_142 : decode cX6_lasts 142 = .ok (.iaload, 1) := by decide +kernel
theorem dX6_lasts_143 : decode cX6_lasts 143 = .ok (.if_icmp .le 19, 3) := by decide +kernel
theorem dX6_lasts_146 : decode cX6_lasts 146 = .ok (.aload_n 0, 1) := by decide +kernel
theorem dX6_lasts_147 : decode cX6_lasts 147 = .ok (.getfield 13, 3) := by decide +kernel
theorem dX6_lasts_150 : decode cX6_lasts 150 = .ok (.iload_n 3, 1) := by decide +kernel
theorem dX6_lasts_151 : decode cX6_lasts 151 = .ok (.iaload, 1) := by decide +kernel
theorem dX6_lasts_152 : decode cX6_lasts 152 = .ok (.aload_n 0, 1) := by decide +kernel
theorem dX6_lasts_153 : decode cX6_lasts 153 = .ok (.getfield 38, 3) := by decide +kernel
theorem dX6_lasts_156 : decode cX6_lasts 156 = .ok (.iload_n 1, 1) := by decide +kernel
theorem dX6_lasts_157 : decode cX6_lasts 157 = .ok (.iaload, 1) := by decide +kernel
theorem dX6_lasts_158 : decode cX6_lasts 158 = .ok (.isub, 1) := by decide +kernel
theorem dX6_lasts_159 : decode cX6_lasts 159 = .ok (.goto 5, 3) := by decide +kernel
theorem dX6_lasts_162 : decode cX6_lasts 162 = .ok (.iload 4, 2) := by decide +kernel
theorem dX6_lasts_164 : decode cX6_lasts 164 = .ok (.ireturn, 1) := by decide +kernel
theorem dX6_worksBack_0 : decode cX6_worksBack 0 = .ok (.aload_n 0, 1) := by decide +kernel
theorem dX6_worksBack_1 : decode cX6_worksBack 1 = .ok (.invokevirtual 113, 3) := by decide +kernel
theorem dX6_worksBack_4 : decode cX6_worksBack 4 = .ok (.istore_n 1, 1) := by decide +kernel
theorem dX6_worksBack_5 : decode cX6_worksBack 5 = .ok (.iconst 0, 1) := by decide +kernel
theorem dX6_worksBack_6 : decode cX6_worksBack 6 = .ok (.istore_n 2, 1) := by decide +kernel
theorem dX6_worksBack_7 : decode cX6_worksBack 7 = .ok (.iload_n 2, 1) := by decide +kernel
theorem dX6_worksBack_8 : decode cX6_worksBack 8 = .ok (.bipush 32, 2) := by decide +kernel
theorem dX6_worksBack_10 : decode cX6_worksBack 10 = .ok (.if_icmp .ge 17, 3) := by decide +kernel
theorem dX6_worksBack_13 : decode cX6_worksBack 13 = .ok (.aload_n 0, 1) := by decide +kernel
theorem dX6_worksBack_14 : decode cX6_worksBack 14 = .ok (.getfield 62, 3) := by decide +kernel
theorem dX6_worksBack_17 : decode cX6_worksBack 17 = .ok (.iload_n 2, 1) := by decide +kernel
theorem dX6_worksBack_18 : decode cX6_worksBack 18 = .ok (.ldc 116, 2) := by decide +kernel
theorem dX6_worksBack_20 : decode cX6_worksBack 20 = .ok (.iastore, 1) := by decide +kernel
theorem dX6_worksBack_21 : decode cX6_worksBack 21 = .ok (.iinc 2 1, 3) := by decide +kernel
theorem dX6_worksBack_24 : decode cX6_worksBack 24 = .ok (.goto (-17), 3) := by decide +kernel
theorem dX6_worksBack_27 : decode cX6_worksBack 27 = .ok (.iconst 0, 1) := by decide +kernel
theorem dX6_worksBack_28 : decode cX6_worksBack 28 = .ok (.istore_n 2, 1) := by decide +kernel
theorem dX6_worksBack_29 : decode cX6_worksBack 29 = .ok (.iload_n 2, 1) := by decide +kernel
theorem dX6_worksBack_30 : decode cX6_worksBack 30 = .ok (.bipush 32, 2) := by decide +kernel
theorem dX6_worksBack_32 : decode cX6_worksBack 32 = .ok (.if_icmp .gt 49, 3) := by decide +kernel
theorem dX6_worksBack_35 : decode cX6_worksBack 35 = .ok (.iconst 0, 1) := by decide +kernel
theorem dX6_worksBack_36 : decode cX6_worksBack 36 = .ok (.istore_n 3, 1) := by decide +kernel
theorem dX6_worksBack_37 : decode cX6_worksBack 37 = .ok (.iload_n 3, 1) := by decide +kernel
theorem dX6_worksBack_38 : decode cX6_worksBack 38 = .ok (.bipush 32, 2) := by decide +kernel
theorem dX6_worksBack_40 : decode cX6_worksBack 40 = .ok (.if_icmp .ge 35, 3) := by decide +kernel
theorem dX6_worksBack_43 : decode cX6_worksBack 43 = .ok (.aload_n 0, 1) := by decide +kernel
theorem dX6_worksBack_44 : decode cX6_worksBack 44 = .ok (.getfield 62, 3) := by decide +kernel
theorem dX6_worksBack_47 : decode cX6_worksBack 47 = .ok (.iload_n 3, 1) := by decide +kernel
theorem dX6_worksBack_48 : decode cX6_worksBack 48 = .ok (.aload_n 0, 1) := by decide +kernel
theorem dX6_worksBack_49 : decode cX6_worksBack 49 = .ok (.getfield 50, 3) := by decide +kernel
theorem dX6_worksBack_52 : decode cX6_worksBack 52 = .ok (.iload_n 3, 1) := by decide +kernel
theorem dX6_worksBack_53 : decode cX6_worksBack 53 = .ok (.baload, 1) := by decide +kernel
theorem dX6_worksBack_54 : decode cX6_worksBack 54 = .ok (.ifCond .eq 12, 3) := by decide +kernel
theorem dX6_worksBack_57 : decode cX6_worksBack 57 = .ok (.aload_n 0, 1) := by decide +kernel
theorem dX6_worksBack_58 : decode cX6_worksBack 58 = .ok (.iload_n 3, 1) := by decide +kernel
theorem dX6_worksBack_59 : decode cX6_worksBack 59 = .ok (.iload_n 1, 1) := by decide +kernel
theorem dX6_worksBack_60 : decode cX6_worksBack 60 = .ok (.invokevirtual 117, 3) := by decide +kernel
theorem dX6_worksBack_63 : decode cX6_worksBack 63 = .ok (.goto 5, 3) := by decide +kernel
theorem dX6_worksBack_66 : decode cX6_worksBack 66 = .ok (.ldc 116, 2) := by decide +kernel
theorem dX6_worksBack_68 : decode cX6_worksBack 68 = .ok (.iastore, 1) := by decide +kernel
theorem dX6_worksBack_69 : decode cX6_worksBack 69 = .ok (.iinc 3 1, 3) := by decide +kernel
theorem dX6_worksBack_72 : decode cX6_worksBack 72 = .ok (.goto (-35), 3) := by decide +kernel
theorem dX6_worksBack_75 : decode cX6_worksBack 75 = .ok (.iinc 2 1, 3) := by decide +kernel
theorem dX6_worksBack_78 : decode cX6_worksBack 78 = .ok (.goto (-49), 3) := by decide +kernel
theorem dX6_worksBack_81 : decode cX6_worksBack 81 = .ok (.return_, 1) := by decide +kernel
theorem dX6_addMachine_0 : decode cX6_addMachine 0 = .ok (.aload_n 0, 1) := by decide +kernel
theorem dX6_addMachine_1 : decode cX6_addMachine 1 = .ok (.aload_n 0, 1) := by decide +kernel
theorem dX6_addMachine_2 : decode cX6_addMachine 2 = .ok (.getfield 78, 3) := by decide +kernel
theorem dX6_addMachine_5 : decode cX6_addMachine 5 = .ok (.iconst 4, 1) := by decide +kernel
theorem dX6_addMachine_6 : decode cX6_addMachine 6 = .ok (.if_icmp .ne 7, 3) := by decide +kernel
theorem dX6_addMachine_9 : decode cX6_addMachine 9 = .ok (.iconst 1, 1) := by decide +kernel
theorem dX6_addMachine_10 : decode cX6_addMachine 10 = .ok (.goto 4, 3) := by decide +kernel
theorem dX6_addMachine_13 : decode cX6_addMachine 13 = .ok (.iconst 0, 1) := by decide +kernel
theorem dX6_addMachine_14 : decode cX6_addMachine 14 = .ok (.putfield 74, 3) := by decide +kernel
theorem dX6_addMachine_17 : decode cX6_addMachine 17 = .ok (.aload_n 0, 1) := by decide +kernel
theorem dX6_addMachine_18 : decode cX6_addMachine 18 = .ok (.getfield 74, 3) := by decide +kernel
theorem dX6_addMachine_21 : decode cX6_addMachine 21 = .ok (.ifCond .le 5, 3) := by decide +kernel
theorem dX6_addMachine_24 : decode cX6_addMachine 24 = .ok (.iconst 0, 1) := by decide +kernel
theorem dX6_addMachine_25 : decode cX6_addMachine 25 = .ok (.ireturn, 1) := by decide +kernel
theorem dX6_addMachine_26 : decode cX6_addMachine 26 = .ok (.aload_n 0, 1) := by decide +kernel
theorem dX6_addMachine_27 : decode cX6_addMachine 27 = .ok (.getfield 7, 3) := by decide +kernel
theorem dX6_addMachine_30 : decode cX6_addMachine 30 = .ok (.aload_n 0, 1) := by decide +kernel
theorem dX6_addMachine_31 : decode cX6_addMachine 31 = .ok (.getfield 78, 3) := by decide +kernel
theorem dX6_addMachine_34 : decode cX6_addMachine 34 = .ok (.iconst 4, 1) := by decide +kernel
theorem dX6_addMachine_35 : decode cX6_addMachine 35 = .ok (.iastore, 1) := by decide +kernel
theorem dX6_addMachine_36 : decode cX6_addMachine 36 = .ok (.aload_n 0, 1) := by decide +kernel
theorem dX6_addMachine_37 : decode cX6_addMachine 37 = .ok (.dup, 1) := by decide +kernel
theorem dX6_addMachine_38 : decode cX6_addMachine 38 = .ok (.getfield 78, 3) := by decide +kernel
theorem dX6_addMachine_41 : decode cX6_addMachine 41 = .ok (.iconst 1, 1) := by decide +kernel
theorem dX6_addMachine_42 : decode cX6_addMachine 42 = .ok (.iadd, 1) := by decide +kernel
theorem dX6_addMachine_43 : decode cX6_addMachine 43 = .ok (.putfield 78, 3) := by decide +kernel
theorem dX6_addMachine_46 : decode cX6_addMachine 46 = .ok (.aload_n 0, 1) := by decide +kernel
theorem dX6_addMachine_47 : decode cX6_addMachine 47 = .ok (.getfield 78, 3) := by decide +kernel
theorem dX6_addMachine_50 : decode cX6_addMachine 50 = .ok (.iconst 1, 1) := by decide +kernel
theorem dX6_addMachine_51 : decode cX6_addMachine 51 = .ok (.isub, 1) := by decide +kernel
theorem dX6_addMachine_52 : decode cX6_addMachine 52 = .ok (.ireturn, 1) := by decide +kernel
theorem dX6_count_0 : decode cX6_count 0 = .ok (.iconst 0, 1) := by decide +kernel
theorem dX6_count_1 : decode cX6_count 1 = .ok (.istore_n 1, 1) := by decide +kernel
theorem dX6_count_2 : decode cX6_count 2 = .ok (.iconst 0, 1) := by decide +kernel
theorem dX6_count_3 : decode cX6_count 3 = .ok (.istore_n 2, 1) := by decide +kernel
theorem dX6_count_4 : decode cX6_count 4 = .ok (.iload_n 2, 1) := by decide +kernel
theorem dX6_count_5 : decode cX6_count 5 = .ok (.bipush 8, 2) := by decide +kernel
theorem dX6_count_7 : decode cX6_count 7 = .ok (.if_icmp .ge 17, 3) := by decide +kernel
theorem dX6_count_10 : decode cX6_count 10 = .ok (.iload_n 1, 1) := by decide +kernel
theorem dX6_count_11 : decode cX6_count 11 = .ok (.iload_n 0, 1) := by decide +kernel
theorem dX6_count_12 : decode cX6_count 12 = .ok (.iload_n 2, 1) := by decide +kernel
theorem dX6_count_13 : decode cX6_count 13 = .ok (.ishr, 1) := by decide +kernel
theorem dX6_count_14 : decode cX6_count 14 = .ok (.iconst 1, 1) := by decide +kernel
theorem dX6_count_15 : decode cX6_count 15 = .ok (.iand, 1) := by decide +kernel
theorem dX6_count_16 : decode cX6_count 16 = .ok (.iadd, 1) := by decide +kernel
theorem dX6_count_17 : decode cX6_count 17 = .ok (.istore_n 1, 1) := by decide +kernel
theorem dX6_count_18 : decode cX6_count 18 = .ok (.iinc 2 1, 3) := by decide +kernel
theorem dX6_count_21 : decode cX6_count 21 = .ok (.goto (-17), 3) := by decide +kernel
theorem dX6_count_24 : decode cX6_count 24 = .ok (.iload_n 1, 1) := by decide +kernel
theorem dX6_count_25 : decode cX6_count 25 = .ok (.ireturn, 1) := by decide +kernel
theorem dX6_setMagazine_0 : decode cX6_setMagazine 0 = .ok (.aload_n 0, 1) := by decide +kernel
theorem dX6_setMagazine_1 : decode cX6_setMagazine 1 = .ok (.aload_n 0, 1) := by decide +kernel
theorem dX6_setMagazine_2 : decode cX6_setMagazine 2 = .ok (.iload_n 1, 1) := by decide +kernel
theorem dX6_setMagazine_3 : decode cX6_setMagazine 3 = .ok (.invokevirtual 120, 3) := by decide +kernel
theorem dX6_setMagazine_6 : decode cX6_setMagazine 6 = .ok (.ifCond .ne 7, 3) := by decide +kernel
theorem dX6_setMagazine_9 : decode cX6_setMagazine 9 = .ok (.iconst 1, 1) := by decide +kernel
theorem dX6_setMagazine_10 : decode cX6_setMagazine 10 = .ok (.goto 18, 3) := by decide +kernel
theorem dX6_setMagazine_13 : decode cX6_setMagazine 13 = .ok (.iload_n 2, 1) := by decide +kernel
theorem dX6_setMagazine_14 : decode cX6_setMagazine 14 = .ok (.iconst 1, 1) := by decide +kernel
theorem dX6_setMagazine_15 : decode cX6_setMagazine 15 = .ok (.bipush 8, 2) := by decide +kernel
theorem dX6_setMagazine_17 : decode cX6_setMagazine 17 = .ok (.invokestatic 81, 3) := by decide +kernel
theorem dX6_setMagazine_20 : decode cX6_setMagazine 20 = .ok (.ifCond .eq 7, 3) := by decide +kernel
theorem dX6_setMagazine_23 : decode cX6_setMagazine 23 = .ok (.iconst 0, 1) := by decide +kernel
theorem dX6_setMagazine_24 : decode cX6_setMagazine 24 = .ok (.goto 4, 3) := by decide +kernel
theorem dX6_setMagazine_27 : decode cX6_setMagazine 27 = .ok (.iconst 2, 1) := by decide +kernel
theorem dX6_setMagazine_28 : decode cX6_setMagazine 28 = .ok (.putfield 74, 3) := by decide +kernel
theorem dX6_setMagazine_31 : decode cX6_setMagazine 31 = .ok (.aload_n 0, 1) := by decide +kernel
theorem dX6_setMagazine_32 : decode cX6_setMagazine 32 = .ok (.getfield 74, 3) := by decide +kernel
theorem dX6_setMagazine_35 : decode cX6_setMagazine 35 = .ok (.ifCond .le 5, 3) := by decide +kernel
theorem dX6_setMagazine_38 : decode cX6_setMagazine 38 = .ok (.iconst 0, 1) := by decide +kernel
theorem dX6_setMagazine_39 : decode cX6_setMagazine 39 = .ok (.ireturn, 1) := by decide +kernel
theorem dX6_setMagazine_40 : decode cX6_setMagazine 40 = .ok (.iconst 0, 1) := by decide +kernel
theorem dX6_setMagazine_41 : decode cX6_setMagazine 41 = .ok (.istore_n 3, 1) := by decide +kernel
theorem dX6_setMagazine_42 : decode cX6_setMagazine 42 = .ok (.iload_n 3, 1) := by decide +kernel
theorem dX6_setMagazine_43 : decode cX6_setMagazine 43 = .ok (.bipush 32, 2) := by decide +kernel
theorem dX6_setMagazine_45 : decode cX6_setMagazine 45 = .ok (.if_icmp .ge 80, 3) := by decide +kernel
theorem dX6_setMagazine_48 : decode cX6_setMagazine 48 = .ok (.iload_n 3, 1) := by decide +kernel
theorem dX6_setMagazine_49 : decode cX6_setMagazine 49 = .ok (.iconst 4, 1) := by decide +kernel
theorem dX6_setMagazine_50 : decode cX6_setMagazine 50 = .ok (.idiv, 1) := by decide +kernel
theorem dX6_setMagazine_51 : decode cX6_setMagazine 51 = .ok (.aload_n 0, 1) := by decide +kernel
theorem dX6_setMagazine_52 : decode cX6_setMagazine 52 = .ok (.getfield 85, 3) := by decide +kernel
theorem dX6_setMagazine_55 : decode cX6_setMagazine 55 = .ok (.if_icmp .ge 21, 3) := by decide +kernel
theorem dX6_setMagazine_58 : decode cX6_setMagazine 58 = .ok (.iload_n 3, 1) := by decide +kernel
theorem dX6_setMagazine_59 : decode cX6_setMagazine 59 = .ok (.iconst 4, 1) := by decide +kernel
theorem dX6_setMagazine_60 : decode cX6_setMagazine 60 = .ok (.irem, 1) := by decide +kernel
theorem dX6_setMagazine_61 : decode cX6_setMagazine 61 = .ok (.aload_n 0, 1) := by decide +kernel
theorem dX6_setMagazine_62 : decode cX6_setMagazine 62 = .ok (.getfield 28, 3) := by decide +kernel
theorem dX6_setMagazine_65 : decode cX6_setMagazine 65 = .ok (.iload_n 3, 1) := by decide +kernel
theorem dX6_setMagazine_66 : decode cX6_setMagazine 66 = .ok (.iconst 4, 1) := by decide +kernel
theorem dX6_setMagazine_67 : decode cX6_setMagazine 67 = .ok (.idiv, 1) := by decide +kernel
theorem dX6_setMagazine_68 : decode cX6_setMagazine 68 = .ok (.iaload, 1) := by decide +kernel
theorem dX6_setMagazine_69 : decode cX6_setMagazine 69 = .ok (.if_icmp .ge 7, 3) := by decide +kernel
theorem dX6_setMagazine_72 : decode cX6_setMagazine 72 = .ok (.iconst 1, 1) := by decide +kernel
theorem dX6_setMagazine_73 : decode cX6_setMagazine 73 = .ok (.goto 4, 3) := by decide +kernel
theorem dX6_setMagazine_76 : decode cX6_setMagazine 76 = .ok (.iconst 0, 1) := by decide +kernel
theorem dX6_setMagazine_77 : decode cX6_setMagazine 77 = .ok (.istore 4, 2) := by decide +kernel
theorem dX6_setMagazine_79 : decode cX6_setMagazine 79 = .ok (.aload_n 0, 1) := by decide +kernel
theorem dX6_setMagazine_80 : decode cX6_setMagazine 80 = .ok (.iload 4, 2) := by decide +kernel
theorem dX6_setMagazine_82 : decode cX6_setMagazine 82 = .ok (.ifCond .eq 30, 3) := by decide +kernel
theorem dX6_setMagazine_85 : decode cX6_setMagazine 85 = .ok (.aload_n 0, 1) := by decide +kernel
theorem dX6_setMagazine_86 : decode cX6_setMagazine 86 = .ok (.getfield 35, 3) := by decide +kernel
theorem dX6_setMagazine_89 : decode cX6_setMagazine 89 = .ok (.iload_n 3, 1) := by decide +kernel
theorem dX6_setMagazine_90 : decode cX6_setMagazine 90 = .ok (.iaload, 1) := by decide +kernel
theorem dX6_setMagazine_91 : decode cX6_setMagazine 91 = .ok (.iload_n 1, 1) := by decide +kernel
theorem dX6_setMagazine_92 : decode cX6_setMagazine 92 = .ok (.if_icmp .ne 20, 3) := by decide +kernel
theorem dX6_setMagazine_95 : decode cX6_setMagazine 95 = .ok (.aload_n 0, 1) := by decide +kernel
theorem dX6_setMagazine_96 : decode cX6_setMagazine 96 = .ok (.getfield 44, 3) := by decide +kernel
theorem dX6_setMagazine_99 : decode cX6_setMagazine 99 = .ok (.iload_n 3, 1) := by decide +kernel
theorem dX6_setMagazine_100 : decode cX6_setMagazine 100 = .ok (.iaload, 1) := by decide +kernel
theorem dX6_setMagazine_101 : decode cX6_setMagazine 101 = .ok (.invokestatic 124, 3) := by decide +kernel
theorem dX6_setMagazine_104 : decode cX6_setMagazine 104 = .ok (.iload_n 2, 1) := by decide +kernel
theorem dX6_setMagazine_105 : decode cX6_setMagazine 105 = .ok (.if_icmp .le 7, 3) := by decide +kernel
theorem dX6_setMagazine_108 : decode cX6_setMagazine 108 = .ok (.iconst 3, 1) := by decide +kernel
theorem dX6_setMagazine_109 : decode cX6_setMagazine 109 = .ok (.goto 7, 3) := by decide +kernel
theorem dX6_setMagazine_112 : decode cX6_setMagazine 112 = .ok (.aload_n 0, 1) := by decide +kernel
theorem dX6_setMagazine_113 : decode cX6_setMagazine 113 = .ok (.getfield 74, 3) := by decide +kernel
theorem dX6_setMagazine_116 : decode cX6_setMagazine 116 = .ok (.putfield 74, 3) := by decide +kernel
theorem dX6_setMagazine_119 : decode cX6_setMagazine 119 = .ok (.iinc 3 1, 3) := by decide +kernel
theorem dX6_setMagazine_122 : decode cX6_setMagazine 122 = .ok (.goto (-80), 3) := by decide +kernel
theorem dX6_setMagazine_125 : decode cX6_setMagazine 125 = .ok (.aload_n 0, 1) := by decide +kernel
theorem dX6_setMagazine_126 : decode cX6_setMagazine 126 = .ok (.getfield 74, 3) := by decide +kernel
theorem dX6_setMagazine_129 : decode cX6_setMagazine 129 = .ok (.ifCond .le 5, 3) := by decide +kernel
theorem dX6_setMagazine_132 : decode cX6_setMagazine 132 = .ok (.iconst 0, 1) := by decide +kernel
theorem dX6_setMagazine_133 : decode cX6_setMagazine 133 = .ok (.ireturn, 1) := by decide +kernel
theorem dX6_setMagazine_134 : decode cX6_setMagazine 134 = .ok (.aload_n 0, 1) := by decide +kernel
theorem dX6_setMagazine_135 : decode cX6_setMagazine 135 = .ok (.getfield 7, 3) := by decide +kernel
theorem dX6_setMagazine_138 : decode cX6_setMagazine 138 = .ok (.iload_n 1, 1) := by decide +kernel
theorem dX6_setMagazine_139 : decode cX6_setMagazine 139 = .ok (.iaload, 1) := by decide +kernel
theorem dX6_setMagazine_140 : decode cX6_setMagazine 140 = .ok (.istore_n 3, 1) := by decide +kernel
theorem dX6_setMagazine_141 : decode cX6_setMagazine 141 = .ok (.aload_n 0, 1) := by decide +kernel
theorem dX6_setMagazine_142 : decode cX6_setMagazine 142 = .ok (.getfield 7, 3) := by decide +kernel
theorem dX6_setMagazine_145 : decode cX6_setMagazine 145 = .ok (.iload_n 1, 1) := by decide +kernel
theorem dX6_setMagazine_146 : decode cX6_setMagazine 146 = .ok (.iload_n 2, 1) := by decide +kernel
theorem dX6_setMagazine_147 : decode cX6_setMagazine 147 = .ok (.iastore, 1) := by decide +kernel
theorem dX6_setMagazine_148 : decode cX6_setMagazine 148 = .ok (.iload_n 3, 1) := by decide +kernel
theorem dX6_setMagazine_149 : decode cX6_setMagazine 149 = .ok (.ireturn, 1) := by decide +kernel
theorem dX6_breakdown_0 : decode cX6_breakdown 0 = .ok (.aload_n 0, 1) := by decide +kernel
theorem dX6_breakdown_1 : decode cX6_breakdown 1 = .ok (.aload_n 0, 1) := by decide +kernel
theorem dX6_breakdown_2 : decode cX6_breakdown 2 = .ok (.iload_n 1, 1) := by decide +kernel
theorem dX6_breakdown_3 : decode cX6_breakdown 3 = .ok (.invokevirtual 120, 3) := by decide +kernel
theorem dX6_breakdown_6 : decode cX6_breakdown 6 = .ok (.ifCond .ne 7, 3) := by decide +kernel
theorem dX6_breakdown_9 : decode cX6_breakdown 9 = .ok (.iconst 1, 1) := by decide +kernel
theorem dX6_breakdown_10 : decode cX6_breakdown 10 = .ok (.goto 31, 3) := by decide +kernel
theorem dX6_breakdown_13 : decode cX6_breakdown 13 = .ok (.iload_n 2, 1) := by decide +kernel
theorem dX6_breakdown_14 : decode cX6_breakdown 14 = .ok (.iconst 0, 1) := by decide +kernel
theorem dX6_breakdown_15 : decode cX6_breakdown 15 = .ok (.sipush 9999, 3) := by decide +kernel
theorem dX6_breakdown_18 : decode cX6_breakdown 18 = .ok (.invokestatic 81, 3) := by decide +kernel
theorem dX6_breakdown_21 : decode cX6_breakdown 21 = .ok (.ifCond .eq 19, 3) := by decide +kernel
theorem dX6_breakdown_24 : decode cX6_breakdown 24 = .ok (.iload_n 3, 1) := by decide +kernel
theorem dX6_breakdown_25 : decode cX6_breakdown 25 = .ok (.iload_n 2, 1) := by decide +kernel
theorem dX6_breakdown_26 : decode cX6_breakdown 26 = .ok (.if_icmp .le 14, 3) := by decide +kernel
theorem dX6_breakdown_29 : decode cX6_breakdown 29 = .ok (.iload_n 3, 1) := by decide +kernel
theorem dX6_breakdown_30 : decode cX6_breakdown 30 = .ok (.sipush 10000, 3) := by decide +kernel
theorem dX6_breakdown_33 : decode cX6_breakdown 33 = .ok (.if_icmp .gt 7, 3) := by decide +kernel
theorem dX6_breakdown_36 : decode cX6_breakdown 36 = .ok (.iconst 0, 1) := by decide +kernel
theorem dX6_breakdown_37 : decode cX6_breakdown 37 = .ok (.goto 4, 3) := by decide +kernel
theorem dX6_breakdown_40 : decode cX6_breakdown 40 = .ok (.iconst 2, 1) := by decide +kernel
theorem dX6_breakdown_41 : decode cX6_breakdown 41 = .ok (.putfield 74, 3) := by decide +kernel
theorem dX6_breakdown_44 : decode cX6_breakdown 44 = .ok (.aload_n 0, 1) := by decide +kernel
theorem dX6_breakdown_45 : decode cX6_breakdown 45 = .ok (.getfield 74, 3) := by decide +kernel
theorem dX6_breakdown_48 : decode cX6_breakdown 48 = .ok (.ifCond .le 5, 3) := by decide +kernel
theorem dX6_breakdown_51 : decode cX6_breakdown 51 = .ok (.iconst 0, 1) := by decide +kernel
theorem dX6_breakdown_52 : decode cX6_breakdown 52 = .ok (.ireturn, 1) := by decide +kernel
theorem dX6_breakdown_53 : decode cX6_breakdown 53 = .ok (.aload_n 0, 1) := by decide +kernel
theorem dX6_breakdown_54 : decode cX6_breakdown 54 = .ok (.getfield 13, 3) := by decide +kernel
theorem dX6_breakdown_57 : decode cX6_breakdown 57 = .ok (.iload_n 1, 1) := by decide +kernel
theorem dX6_breakdown_58 : decode cX6_breakdown 58 = .ok (.iload_n 2, 1) := by decide +kernel
theorem dX6_breakdown_59 : decode cX6_breakdown 59 = .ok (.iastore, 1) := by decide +kernel
theorem dX6_breakdown_60 : decode cX6_breakdown 60 = .ok (.aload_n 0, 1) := by decide +kernel
theorem dX6_breakdown_61 : decode cX6_breakdown 61 = .ok (.getfield 16, 3) := by decide +kernel
theorem dX6_breakdown_64 : decode cX6_breakdown 64 = .ok (.iload_n 1, 1) := by decide +kernel
theorem dX6_breakdown_65 : decode cX6_breakdown 65 = .ok (.iload_n 3, 1) := by decide +kernel
theorem dX6_breakdown_66 : decode cX6_breakdown 66 = .ok (.iastore, 1) := by decide +kernel
theorem dX6_breakdown_67 : decode cX6_breakdown 67 = .ok (.aload_n 0, 1) := by decide +kernel
theorem dX6_breakdown_68 : decode cX6_breakdown 68 = .ok (.invokevirtual 113, 3) := by decide +kernel
theorem dX6_breakdown_71 : decode cX6_breakdown 71 = .ok (.ireturn, 1) := by decide +kernel
theorem dX6_repair_0 : decode cX6_repair 0 = .ok (.aload_n 0, 1) := by decide +kernel
theorem dX6_repair_1 : decode cX6_repair 1 = .ok (.aload_n 0, 1) := by decide +kernel
theorem dX6_repair_2 : decode cX6_repair 2 = .ok (.iload_n 1, 1) := by decide +kernel
theorem dX6_repair_3 : decode cX6_repair 3 = .ok (.invokevirtual 120, 3) := by decide +kernel
theorem dX6_repair_6 : decode cX6_repair 6 = .ok (.ifCond .eq 7, 3) := by decide +kernel
theorem dX6_repair_9 : decode cX6_repair 9 = .ok (.iconst 0, 1) := by decide +kernel
theorem dX6_repair_10 : decode cX6_repair 10 = .ok (.goto 4, 3) := by decide +kernel
theorem dX6_repair_13 : decode cX6_repair 13 = .ok (.iconst 1, 1) := by decide +kernel
theorem dX6_repair_14 : decode cX6_repair 14 = .ok (.putfield 74, 3) := by decide +kernel
theorem dX6_repair_17 : decode cX6_repair 17 = .ok (.aload_n 0, 1) := by decide +kernel
theorem dX6_repair_18 : decode cX6_repair 18 = .ok (.getfield 74, 3) := by decide +kernel
theorem dX6_repair_21 : decode cX6_repair 21 = .ok (.ifCond .le 5, 3) := by decide +kernel
theorem dX6_repair_24 : decode cX6_repair 24 = .ok (.iconst 0, 1) := by decide +kernel
theorem dX6_repair_25 : decode cX6_repair 25 = .ok (.ireturn, 1) := by decide +kernel
theorem dX6_repair_26 : decode cX6_repair 26 = .ok (.aload_n 0, 1) := by decide +kernel
theorem dX6_repair_27 : decode cX6_repair 27 = .ok (.getfield 16, 3) := by decide +kernel
theorem dX6_repair_30 : decode cX6_repair 30 = .ok (.iload_n 1, 1) := by decide +kernel
theorem dX6_repair_31 : decode cX6_repair 31 = .ok (.iaload, 1) := by decide +kernel
theorem dX6_repair_32 : decode cX6_repair 32 = .ok (.ifCond .le 7, 3) := by decide +kernel
theorem dX6_repair_35 : decode cX6_repair 35 = .ok (.iconst 1, 1) := by decide +kernel
theorem dX6_repair_36 : decode cX6_repair 36 = .ok (.goto 4, 3) := by decide +kernel
theorem dX6_repair_39 : decode cX6_repair 39 = .ok (.iconst 0, 1) := by decide +kernel
theorem dX6_repair_40 : decode cX6_repair 40 = .ok (.istore_n 2, 1) := by decide +kernel
theorem dX6_repair_41 : decode cX6_repair 41 = .ok (.aload_n 0, 1) := by decide +kernel
theorem dX6_repair_42 : decode cX6_repair 42 = .ok (.getfield 13, 3) := by decide +kernel
theorem dX6_repair_45 : decode cX6_repair 45 = .ok (.iload_n 1, 1) := by decide +kernel
theorem dX6_repair_46 : decode cX6_repair 46 = .ok (.iconst 0, 1) := by decide +kernel
theorem dX6_repair_47 : decode cX6_repair 47 = .ok (.iastore, 1) := by decide +kernel
theorem dX6_repair_48 : decode cX6_repair 48 = .ok (.aload_n 0, 1) := by decide +kernel
theorem dX6_repair_49 : decode cX6_repair 49 = .ok (.getfield 16, 3) := by decide +kernel
theorem dX6_repair_52 : decode cX6_repair 52 = .ok (.iload_n 1, 1) := by decide +kernel
theorem dX6_repair_53 : decode cX6_repair 53 = .ok (.iconst 0, 1) := by decide +kernel
theorem dX6_repair_54 : decode cX6_repair 54 = .ok (.iastore, 1) := by decide +kernel
theorem dX6_repair_55 : decode cX6_repair 55 = .ok (.iload_n 2, 1) := by decide +kernel
theorem dX6_repair_56 : decode cX6_repair 56 = .ok (.ireturn, 1) := by decide +kernel
theorem dX6_addJob_0 : decode cX6_addJob 0 = .ok (.aload_n 0, 1) := by decide +kernel
theorem dX6_addJob_1 : decode cX6_addJob 1 = .ok (.iload_n 1, 1) := by decide +kernel
theorem dX6_addJob_2 : decode cX6_addJob 2 = .ok (.iconst 0, 1) := by decide +kernel
theorem dX6_addJob_3 : decode cX6_addJob 3 = .ok (.sipush 10000, 3) := by decide +kernel
theorem dX6_addJob_6 : decode cX6_addJob 6 = .ok (.invokestatic 81, 3) := by decide +kernel
theorem dX6_addJob_9 : decode cX6_addJob 9 = .ok (.ifCond .ne 7, 3) := by decide +kernel
theorem dX6_addJob_12 : decode cX6_addJob 12 = .ok (.iconst 1, 1) := by decide +kernel
theorem dX6_addJob_13 : decode cX6_addJob 13 = .ok (.goto 17, 3) := by decide +kernel
theorem dX6_addJob_16 : decode cX6_addJob 16 = .ok (.aload_n 0, 1) := by decide +kernel
theorem dX6_addJob_17 : decode cX6_addJob 17 = .ok (.getfield 85, 3) := by decide +kernel
theorem dX6_addJob_20 : decode cX6_addJob 20 = .ok (.bipush 8, 2) := by decide +kernel
theorem dX6_addJob_22 : decode cX6_addJob 22 = .ok (.if_icmp .ne 7, 3) := by decide +kernel
theorem dX6_addJob_25 : decode cX6_addJob 25 = .ok (.iconst 2, 1) := by decide +kernel
theorem dX6_addJob_26 : decode cX6_addJob 26 = .ok (.goto 4, 3) := by decide +kernel
theorem dX6_addJob_29 : decode cX6_addJob 29 = .ok (.iconst 0, 1) := by decide +kernel
theorem dX6_addJob_30 : decode cX6_addJob 30 = .ok (.putfield 74, 3) := by decide +kernel
theorem dX6_addJob_33 : decode cX6_addJob 33 = .ok (.aload_n 0, 1) := by decide +kernel
theorem dX6_addJob_34 : decode cX6_addJob 34 = .ok (.getfield 74, 3) := by decide +kernel
theorem dX6_addJob_37 : decode cX6_addJob 37 = .ok (.ifCond .le 5, 3) := by decide +kernel
theorem dX6_addJob_40 : decode cX6_addJob 40 = .ok (.iconst 0, 1) := by decide +kernel
theorem dX6_addJob_41 : decode cX6_addJob 41 = .ok (.ireturn, 1) := by decide +kernel
theorem dX6_addJob_42 : decode cX6_addJob 42 = .ok (.aload_n 0, 1) := by decide +kernel
theorem dX6_addJob_43 : decode cX6_addJob 43 = .ok (.getfield 25, 3) := by decide +kernel
theorem dX6_addJob_46 : decode cX6_addJob 46 = .ok (.aload_n 0, 1) := by decide +kernel
theorem dX6_addJob_47 : decode cX6_addJob 47 = .ok (.getfield 85, 3) := by decide +kernel
theorem dX6_addJob_50 : decode cX6_addJob 50 = .ok (.iload_n 1, 1) := by decide +kernel
theorem dX6_addJob_51 : decode cX6_addJob 51 = .ok (.iastore, 1) := by decide +kernel
theorem dX6_addJob_52 : decode cX6_addJob 52 = .ok (.aload_n 0, 1) := by decide +kernel
theorem dX6_addJob_53 : decode cX6_addJob 53 = .ok (.dup, 1) := by decide +kernel
theorem dX6_addJob_54 : decode cX6_addJob 54 = .ok (.getfield 85, 3) := by decide +kernel
theorem dX6_addJob_57 : decode cX6_addJob 57 = .ok (.iconst 1, 1) := by decide +kernel
theorem dX6_addJob_58 : decode cX6_addJob 58 = .ok (.iadd, 1) := by decide +kernel
theorem dX6_addJob_59 : decode cX6_addJob 59 = .ok (.putfield 85, 3) := by decide +kernel
theorem dX6_addJob_62 : decode cX6_addJob 62 = .ok (.aload_n 0, 1) := by decide +kernel
theorem dX6_addJob_63 : decode cX6_addJob 63 = .ok (.getfield 85, 3) := by decide +kernel
theorem dX6_addJob_66 : decode cX6_addJob 66 = .ok (.iconst 1, 1) := by decide +kernel
theorem dX6_addJob_67 : decode cX6_addJob 67 = .ok (.isub, 1) := by decide +kernel
theorem dX6_addJob_68 : decode cX6_addJob 68 = .ok (.ireturn, 1) := by decide +kernel
theorem dX6_addOperation_0 : decode cX6_addOperation 0 = .ok (.iload_n 3, 1) := by decide +kernel
theorem dX6_addOperation_1 : decode cX6_addOperation 1 = .ok (.iconst 1, 1) := by decide +kernel
theorem dX6_addOperation_2 : decode cX6_addOperation 2 = .ok (.sipush 200, 3) := by decide +kernel
theorem dX6_addOperation_5 : decode cX6_addOperation 5 = .ok (.invokestatic 81, 3) := by decide +kernel
theorem dX6_addOperation_8 : decode cX6_addOperation 8 = .ok (.ifCond .eq 29, 3) := by decide +kernel
theorem dX6_addOperation_11 : decode cX6_addOperation 11 = .ok (.iload 4, 2) := by decide +kernel
theorem dX6_addOperation_13 : decode cX6_addOperation 13 = .ok (.iconst 0, 1) := by decide +kernel
theorem dX6_addOperation_14 : decode cX6_addOperation 14 = .ok (.iconst 3, 1) := by decide +kernel
theorem dX6_addOperation_15 : decode cX6_addOperation 15 = .ok (.invokestatic 81, 3) := by decide +kernel
theorem dX6_addOperation_18 : decode cX6_addOperation 18 = .ok (.ifCond .eq 19, 3) := by decide +kernel
theorem dX6_addOperation_21 : decode cX6_addOperation 21 = .ok (.iload 5, 2) := by decide +kernel
theorem dX6_addOperation_23 : decode cX6_addOperation 23 = .ok (.iconst 0, 1) := by decide +kernel
theorem dX6_addOperation_24 : decode cX6_addOperation 24 = .ok (.sipush 255, 3) := by decide +kernel
theorem dX6_addOperation_27 : decode cX6_addOperation 27 = .ok (.invokestatic 81, 3) := by decide +kernel
theorem dX6_addOperation_30 : decode cX6_addOperation 30 = .ok (.ifCond .eq 7, 3) := by decide +kernel
theorem dX6_addOperation_33 : decode cX6_addOperation 33 = .ok (.iconst 1, 1) := by decide +kernel
theorem dX6_addOperation_34 : decode cX6_addOperation 34 = .ok (.goto 4, 3) := by decide +kernel
theorem dX6_addOperation_37 : decode cX6_addOperation 37 = .ok (.iconst 0, 1) := by decide +kernel
theorem dX6_addOperation_38 : decode cX6_addOperation 38 = .ok (.istore 6, 2) := by decide +kernel
theorem dX6_addOperation_40 : decode cX6_addOperation 40 = .ok (.aload_n 0, 1) := by decide +kernel
theorem dX6_addOperation_41 : decode cX6_addOperation 41 = .ok (.aload_n 0, 1) := by decide +kernel
theorem dX6_addOperation_42 : decode cX6_addOperation 42 = .ok (.iload_n 1, 1) := by decide +kernel
theorem dX6_addOperation_43 : decode cX6_addOperation 43 = .ok (.invokevirtual 127, 3) := by decide +kernel
theorem dX6_addOperation_46 : decode cX6_addOperation 46 = .ok (.ifCond .eq 11, 3) := by decide +kernel
theorem dX6_addOperation_49 : decode cX6_addOperation 49 = .ok (.aload_n 0, 1) := by decide +kernel
theorem dX6_addOperation_50 : decode cX6_addOperation 50 = .ok (.iload_n 2, 1) := by decide +kernel
theorem dX6_addOperation_51 : decode cX6_addOperation 51 = .ok (.invokevirtual 120, 3) := by decide +kernel
theorem dX6_addOperation_54 : decode cX6_addOperation 54 = .ok (.ifCond .ne 7, 3) := by decide +kernel
theorem dX6_addOperation_57 : decode cX6_addOperation 57 = .ok (.iconst 1, 1) := by decide +kernel
theorem dX6_addOperation_58 : decode cX6_addOperation 58 = .ok (.goto 13, 3) := by decide +kernel
theorem dX6_addOperation_61 : decode cX6_addOperation 61 = .ok (.iload 6, 2) := by decide +kernel
theorem dX6_addOperation_63 : decode cX6_addOperation 63 = .ok (.ifCond .ne 7, 3) := by decide +kernel
theorem dX6_addOperation_66 : decode cX6_addOperation 66 = .ok (.iconst 2, 1) := by decide +kernel
theorem dX6_addOperation_67 : decode cX6_addOperation 67 = .ok (.goto 4, 3) := by decide +kernel
theorem dX6_addOperation_70 : decode cX6_addOperation 70 = .ok (.iconst 0, 1) := by decide +kernel
theorem dX6_addOperation_71 : decode cX6_addOperation 71 = .ok (.putfield 74, 3) := by decide +kernel
theorem dX6_addOperation_74 : decode cX6_addOperation 74 = .ok (.aload_n 0, 1) := by decide +kernel
theorem dX6_addOperation_75 : decode cX6_addOperation 75 = .ok (.aload_n 0, 1) := by decide +kernel
theorem dX6_addOperation_76 : decode cX6_addOperation 76 = .ok (.getfield 74, 3) := by decide +kernel
theorem dX6_addOperation_79 : decode cX6_addOperation 79 = .ok (.ifCond .ne 40, 3) := by decide +kernel
theorem dX6_addOperation_82 : decode cX6_addOperation 82 = .ok (.aload_n 0, 1) := by decide +kernel
theorem dX6_addOperation_83 : decode cX6_addOperation 83 = .ok (.getfield 28, 3) := by decide +kernel
theorem dX6_addOperation_86 : decode cX6_addOperation 86 = .ok (.iload_n 1, 1) := by decide +kernel
theorem dX6_addOperation_87 : decode cX6_addOperation 87 = .ok (.iaload, 1) := by decide +kernel
theorem dX6_addOperation_88 : decode cX6_addOperation 88 = .ok (.iconst 4, 1) := by decide +kernel
theorem dX6_addOperation_89 : decode cX6_addOperation 89 = .ok (.if_icmp .eq 26, 3) := by decide +kernel
theorem dX6_addOperation_92 : decode cX6_addOperation 92 = .ok (.aload_n 0, 1) := by decide +kernel
theorem dX6_addOperation_93 : decode cX6_addOperation 93 = .ok (.getfield 31, 3) := by decide +kernel
theorem dX6_addOperation_96 : decode cX6_addOperation 96 = .ok (.iload_n 1, 1) := by decide +kernel
theorem dX6_addOperation_97 : decode cX6_addOperation 97 = .ok (.baload, 1) := by decide +kernel
theorem dX6_addOperation_98 : decode cX6_addOperation 98 = .ok (.ifCond .ne 17, 3) := by decide +kernel
theorem dX6_addOperation_101 : decode cX6_addOperation 101 = .ok (.iload 5, 2) := by decide +kernel
theorem dX6_addOperation_103 : decode cX6_addOperation 103 = .ok (.invokestatic 124, 3) := by decide +kernel
theorem dX6_addOperation_106 : decode cX6_addOperation 106 = .ok (.aload_n 0, 1) := by decide +kernel
theorem dX6_addOperation_107 : decode cX6_addOperation 107 = .ok (.getfield 7, 3) := by decide +kernel
theorem dX6_addOperation_110 : decode cX6_addOperation 110 = .ok (.iload_n 2, 1) := by decide +kernel
theorem dX6_addOperation_111 : decode cX6_addOperation 111 = .ok (.iaload, 1) := by decide +kernel
theorem dX6_addOperation_112 : decode cX6_addOperation 112 = .ok (.if_icmp .le 7, 3) := by decide +kernel
theorem dX6_addOperation_115 : decode cX6_addOperation 115 = .ok (.iconst 3, 1) := by decide +kernel
theorem dX6_addOperation_116 : decode cX6_addOperation 116 = .ok (.goto 7, 3) := by decide +kernel
theorem dX6_addOperation_119 : decode cX6_addOperation 119 = .ok (.aload_n 0, 1) := by decide +kernel
theorem dX6_addOperation_120 : decode cX6_addOperation 120 = .ok (.getfield 74, 3) := by decide +kernel
theorem dX6_addOperation_123 : decode cX6_addOperation 123 = .ok (.putfield 74, 3) := by decide +kernel
theorem dX6_addOperation_126 : decode cX6_addOperation 126 = .ok (.aload_n 0, 1) := by decide +kernel
theorem dX6_addOperation_127 : decode cX6_addOperation 127 = .ok (.getfield 74, 3) := by decide +kernel
theorem dX6_addOperation_130 : decode cX6_addOperation 130 = .ok (.ifCond .le 5, 3) := by decide +kernel
theorem dX6_addOperation_133 : decode cX6_addOperation 133 = .ok (.iconst 0, 1) := by decide +kernel
theorem dX6_addOperation_134 : decode cX6_addOperation 134 = .ok (.ireturn, 1) := by decide +kernel
theorem dX6_addOperation_135 : decode cX6_addOperation 135 = .ok (.iconst 4, 1) := by decide +kernel
theorem dX6_addOperation_136 : decode cX6_addOperation 136 = .ok (.iload_n 1, 1) := by decide +kernel
theorem dX6_addOperation_137 : decode cX6_addOperation 137 = .ok (.imul, 1) := by decide +kernel
theorem dX6_addOperation_138 : decode cX6_addOperation 138 = .ok (.aload_n 0, 1) := by decide +kernel
theorem dX6_addOperation_139 : decode cX6_addOperation 139 = .ok (.getfield 28, 3) := by decide +kernel
theorem dX6_addOperation_142 : decode cX6_addOperation 142 = .ok (.iload_n 1, 1) := by decide +kernel
theorem dX6_addOperation_143 : decode cX6_addOperation 143 = .ok (.iaload, 1) := by decide +kernel
theorem dX6_addOperation_144 : decode cX6_addOperation 144 = .ok (.iadd, 1) := by decide +kernel
theorem dX6_addOperation_145 : decode cX6_addOperation 145 = .ok (.istore 7, 2) := by decide +kernel
theorem dX6_addOperation_147 : decode cX6_addOperation 147 = .ok (.aload_n 0, 1) := by decide +kernel
theorem dX6_addOperation_148 : decode cX6_addOperation 148 = .ok (.getfield 35, 3) := by decide +kernel
theorem dX6_addOperation_151 : decode cX6_addOperation 151 = .ok (.iload 7, 2) := by decide +kernel
theorem dX6_addOperation_153 : decode cX6_addOperation 153 = .ok (.iload_n 2, 1) := by decide +kernel
theorem dX6_addOperation_154 : decode cX6_addOperation 154 = .ok (.iastore, 1) := by decide +kernel
theorem dX6_addOperation_155 : decode cX6_addOperation 155 = .ok (.aload_n 0, 1) := by decide +kernel
theorem dX6_addOperation_156 : decode cX6_addOperation 156 = .ok (.getfield 38, 3) := by decide +kernel
theorem dX6_addOperation_159 : decode cX6_addOperation 159 = .ok (.iload 7, 2) := by decide +kernel
theorem dX6_addOperation_161 : decode cX6_addOperation 161 = .ok (.iload_n 3, 1) := by decide +kernel
theorem dX6_addOperation_162 : decode cX6_addOperation 162 = .ok (.iastore, 1) := by decide +kernel
theorem dX6_addOperation_163 : decode cX6_addOperation 163 = .ok (.aload_n 0, 1) := by decide +kernel
theorem dX6_addOperation_164 : decode cX6_addOperation 164 = .ok (.getfield 41, 3) := by decide +kernel
theorem dX6_addOperation_167 : decode cX6_addOperation 167 = .ok (.iload 7, 2) := by decide +kernel
theorem dX6_addOperation_169 : decode cX6_addOperation 169 = .ok (.iload 4, 2) := by decide +kernel
theorem dX6_addOperation_171 : decode cX6_addOperation 171 = .ok (.iastore, 1) := by decide +kernel
theorem dX6_addOperation_172 : decode cX6_addOperation 172 = .ok (.aload_n 0, 1) := by decide +kernel
theorem dX6_addOperation_173 : decode cX6_addOperation 173 = .ok (.getfield 44, 3) := by decide +kernel
theorem dX6_addOperation_176 : decode cX6_addOperation 176 = .ok (.iload 7, 2) := by decide +kernel
theorem dX6_addOperation_178 : decode cX6_addOperation 178 = .ok (.iload 5, 2) := by decide +kernel
theorem dX6_addOperation_180 : decode cX6_addOperation 180 = .ok (.iastore, 1) := by decide +kernel
theorem dX6_addOperation_181 : decode cX6_addOperation 181 = .ok (.aload_n 0, 1) := by decide +kernel
theorem dX6_addOperation_182 : decode cX6_addOperation 182 = .ok (.getfield 28, 3) := by decide +kernel
theorem dX6_addOperation_185 : decode cX6_addOperation 185 = .ok (.iload_n 1, 1) := by decide +kernel
theorem dX6_addOperation_186 : decode cX6_addOperation 186 = .ok (.dup2, 1) := by decide +kernel
theorem dX6_addOperation_187 : decode cX6_addOperation 187 = .ok (.iaload, 1) := by decide +kernel
theorem dX6_addOperation_188 : decode cX6_addOperation 188 = .ok (.iconst 1, 1) := by decide +kernel
theorem dX6_addOperation_189 : decode cX6_addOperation 189 = .ok (.iadd, 1) := by decide +kernel
theorem dX6_addOperation_190 : decode cX6_addOperation 190 = .ok (.iastore, 1) := by decide +kernel
theorem dX6_addOperation_191 : decode cX6_addOperation 191 = .ok (.aload_n 0, 1) := by decide +kernel
theorem dX6_addOperation_192 : decode cX6_addOperation 192 = .ok (.getfield 28, 3) := by decide +kernel
theorem dX6_addOperation_195 : decode cX6_addOperation 195 = .ok (.iload_n 1, 1) := by decide +kernel
theorem dX6_addOperation_196 : decode cX6_addOperation 196 = .ok (.iaload, 1) := by decide +kernel
theorem dX6_addOperation_197 : decode cX6_addOperation 197 = .ok (.iconst 1, 1) := by decide +kernel
theorem dX6_addOperation_198 : decode cX6_addOperation 198 = .ok (.isub, 1) := by decide +kernel
theorem dX6_addOperation_199 : decode cX6_addOperation 199 = .ok (.ireturn, 1) := by decide +kernel
theorem dX6_isFamily_0 : decode cX6_isFamily 0 = .ok (.iload_n 0, 1) := by decide +kernel
theorem dX6_isFamily_1 : decode cX6_isFamily 1 = .ok (.iconst 0, 1) := by decide +kernel
theorem dX6_isFamily_2 : decode cX6_isFamily 2 = .ok (.iconst 3, 1) := by decide +kernel
theorem dX6_isFamily_3 : decode cX6_isFamily 3 = .ok (.invokestatic 81, 3) := by decide +kernel
theorem dX6_isFamily_6 : decode cX6_isFamily 6 = .ok (.ireturn, 1) := by decide +kernel
theorem dX6_setSetup_0 : decode cX6_setSetup 0 = .ok (.aload_n 0, 1) := by decide +kernel
theorem dX6_setSetup_1 : decode cX6_setSetup 1 = .ok (.iload_n 1, 1) := by decide +kernel
theorem dX6_setSetup_2 : decode cX6_setSetup 2 = .ok (.invokestatic 130, 3) := by decide +kernel
theorem dX6_setSetup_5 : decode cX6_setSetup 5 = .ok (.ifCond .eq 10, 3) := by decide +kernel
theorem dX6_setSetup_8 : decode cX6_setSetup 8 = .ok (.iload_n 2, 1) := by decide +kernel
theorem dX6_setSetup_9 : decode cX6_setSetup 9 = .ok (.invokestatic 130, 3) := by decide +kernel
theorem dX6_setSetup_12 : decode cX6_setSetup 12 = .ok (.ifCond .ne 7, 3) := by decide +kernel
theorem dX6_setSetup_15 : decode cX6_setSetup 15 = .ok (.iconst 1, 1) := by decide +kernel
theorem dX6_setSetup_16 : decode cX6_setSetup 16 = .ok (.goto 18, 3) := by decide +kernel
theorem dX6_setSetup_19 : decode cX6_setSetup 19 = .ok (.iload_n 3, 1) := by decide +kernel
theorem dX6_setSetup_20 : decode cX6_setSetup 20 = .ok (.iconst 0, 1) := by decide +kernel
theorem dX6_setSetup_21 : decode cX6_setSetup 21 = .ok (.bipush 60, 2) := by decide +kernel
theorem dX6_setSetup_23 : decode cX6_setSetup 23 = .ok (.invokestatic 81, 3) := by decide +kernel
theorem dX6_setSetup_26 : decode cX6_setSetup 26 = .ok (.ifCond .eq 7, 3) := by decide +kernel
theorem dX6_setSetup_29 : decode cX6_setSetup 29 = .ok (.iconst 0, 1) := by decide +kernel
theorem dX6_setSetup_30 : decode cX6_setSetup 30 = .ok (.goto 4, 3) := by decide +kernel
theorem dX6_setSetup_33 : decode cX6_setSetup 33 = .ok (.iconst 2, 1) := by decide +kernel
theorem dX6_setSetup_34 : decode cX6_setSetup 34 = .ok (.putfield 74, 3) := by decide +kernel
theorem dX6_setSetup_37 : decode cX6_setSetup 37 = .ok (.aload_n 0, 1) := by decide +kernel
theorem dX6_setSetup_38 : decode cX6_setSetup 38 = .ok (.getfield 74, 3) := by decide +kernel
theorem dX6_setSetup_41 : decode cX6_setSetup 41 = .ok (.ifCond .le 5, 3) := by decide +kernel
theorem dX6_setSetup_44 : decode cX6_setSetup 44 = .ok (.iconst 0, 1) := by decide +kernel
theorem dX6_setSetup_45 : decode cX6_setSetup 45 = .ok (.ireturn, 1) := by decide +kernel
theorem dX6_setSetup_46 : decode cX6_setSetup 46 = .ok (.aload_n 0, 1) := by decide +kernel
theorem dX6_setSetup_47 : decode cX6_setSetup 47 = .ok (.iload_n 1, 1) := by decide +kernel
theorem dX6_setSetup_48 : decode cX6_setSetup 48 = .ok (.iload_n 2, 1) := by decide +kernel
theorem dX6_setSetup_49 : decode cX6_setSetup 49 = .ok (.invokevirtual 96, 3) := by decide +kernel
theorem dX6_setSetup_52 : decode cX6_setSetup 52 = .ok (.istore 4, 2) := by decide +kernel
theorem dX6_setSetup_54 : decode cX6_setSetup 54 = .ok (.aload_n 0, 1) := by decide +kernel
theorem dX6_setSetup_55 : decode cX6_setSetup 55 = .ok (.getfield 47, 3) := by decide +kernel
theorem dX6_setSetup_58 : decode cX6_setSetup 58 = .ok (.iconst 4, 1) := by decide +kernel
theorem dX6_setSetup_59 : decode cX6_setSetup 59 = .ok (.iload_n 1, 1) := by decide +kernel
theorem dX6_setSetup_60 : decode cX6_setSetup 60 = .ok (.imul, 1) := by decide +kernel
theorem dX6_setSetup_61 : decode cX6_setSetup 61 = .ok (.iload_n 2, 1) := by decide +kernel
theorem dX6_setSetup_62 : decode cX6_setSetup 62 = .ok (.iadd, 1) := by decide +kernel
theorem dX6_setSetup_63 : decode cX6_setSetup 63 = .ok (.iload_n 3, 1) := by decide +kernel
theorem dX6_setSetup_64 : decode cX6_setSetup 64 = .ok (.iastore, 1) := by decide +kernel
theorem dX6_setSetup_65 : decode cX6_setSetup 65 = .ok (.iload 4, 2) := by decide +kernel
theorem dX6_setSetup_67 : decode cX6_setSetup 67 = .ok (.ireturn, 1) := by decide +kernel
theorem dX6_puts_0 : decode cX6_puts 0 = .ok (.aload_n 0, 1) := by decide +kernel
theorem dX6_puts_1 : decode cX6_puts 1 = .ok (.getfield 35, 3) := by decide +kernel
theorem dX6_puts_4 : decode cX6_puts 4 = .ok (.iload_n 1, 1) := by decide +kernel
theorem dX6_puts_5 : decode cX6_puts 5 = .ok (.iaload, 1) := by decide +kernel
theorem dX6_puts_6 : decode cX6_puts 6 = .ok (.istore_n 3, 1) := by decide +kernel
theorem dX6_puts_7 : decode cX6_puts 7 = .ok (.aload_n 0, 1) := by decide +kernel
theorem dX6_puts_8 : decode cX6_puts 8 = .ok (.getfield 19, 3) := by decide +kernel
theorem dX6_puts_11 : decode cX6_puts 11 = .ok (.iload_n 3, 1) := by decide +kernel
theorem dX6_puts_12 : decode cX6_puts 12 = .ok (.iaload, 1) := by decide +kernel
theorem dX6_puts_13 : decode cX6_puts 13 = .ok (.istore 4, 2) := by decide +kernel
theorem dX6_puts_15 : decode cX6_puts 15 = .ok (.iload 4, 2) := by decide +kernel
theorem dX6_puts_17 : decode cX6_puts 17 = .ok (.iload_n 2, 1) := by decide +kernel
theorem dX6_puts_18 : decode cX6_puts 18 = .ok (.if_icmp .le 35, 3) := by decide +kernel
theorem dX6_puts_21 : decode cX6_puts 21 = .ok (.aload_n 0, 1) := by decide +kernel
theorem dX6_puts_22 : decode cX6_puts 22 = .ok (.getfield 22, 3) := by decide +kernel
theorem dX6_puts_25 : decode cX6_puts 25 = .ok (.bipush 32, 2) := by decide +kernel
theorem dX6_puts_27 : decode cX6_puts 27 = .ok (.iload_n 3, 1) := by decide +kernel
theorem dX6_puts_28 : decode cX6_puts 28 = .ok (.imul, 1) := by decide +kernel
theorem dX6_puts_29 : decode cX6_puts 29 = .ok (.iload 4, 2) := by decide +kernel
theorem dX6_puts_31 : decode cX6_puts 31 = .ok (.iadd, 1) := by decide +kernel
theorem dX6_puts_32 : decode cX6_puts 32 = .ok (.aload_n 0, 1) := by decide +kernel
theorem dX6_puts_33 : decode cX6_puts 33 = .ok (.getfield 22, 3) := by decide +kernel
theorem dX6_puts_36 : decode cX6_puts 36 = .ok (.bipush 32, 2) := by decide +kernel
theorem dX6_puts_38 : decode cX6_puts 38 = .ok (.iload_n 3, 1) := by decide +kernel
theorem dX6_puts_39 : decode cX6_puts 39 = .ok (.imul, 1) := by decide +kernel
theorem dX6_puts_40 : decode cX6_puts 40 = .ok (.iload 4, 2) := by decide +kernel
theorem dX6_puts_42 : decode cX6_puts 42 = .ok (.iadd, 1) := by decide +kernel
theorem dX6_puts_43 : decode cX6_puts 43 = .ok (.iconst 1, 1) := by decide +kernel
theorem dX6_puts_44 : decode cX6_puts 44 = .ok (.isub, 1) := by decide +kernel
theorem dX6_puts_45 : decode cX6_puts 45 = .ok (.iaload, 1) := by decide +kernel
theorem dX6_puts_46 : decode cX6_puts 46 = .ok (.iastore, 1) := by decide +kernel
theorem dX6_puts_47 : decode cX6_puts 47 = .ok (.iinc 4 (-1), 3) := by decide +kernel
theorem dX6_puts_50 : decode cX6_puts 50 = .ok (.goto (-35), 3) := by decide +kernel
theorem dX6_puts_53 : decode cX6_puts 53 = .ok (.aload_n 0, 1) := by decide +kernel
theorem dX6_puts_54 : decode cX6_puts 54 = .ok (.getfield 22, 3) := by decide +kernel
theorem dX6_puts_57 : decode cX6_puts 57 = .ok (.bipush 32, 2) := by decide +kernel
theorem dX6_puts_59 : decode cX6_puts 59 = .ok (.iload_n 3, 1) := by decide +kernel
theorem dX6_puts_60 : decode cX6_puts 60 = .ok (.imul, 1) := by decide +kernel
theorem dX6_puts_61 : decode cX6_puts 61 = .ok (.iload_n 2, 1) := by decide +kernel
theorem dX6_puts_62 : decode cX6_puts 62 = .ok (.iadd, 1) := by decide +kernel
theorem dX6_puts_63 : decode cX6_puts 63 = .ok (.iload_n 1, 1) := by decide +kernel
theorem dX6_puts_64 : decode cX6_puts 64 = .ok (.iastore, 1) := by decide +kernel
theorem dX6_puts_65 : decode cX6_puts 65 = .ok (.aload_n 0, 1) := by decide +kernel
theorem dX6_puts_66 : decode cX6_puts 66 = .ok (.getfield 19, 3) := by decide +kernel
theorem dX6_puts_69 : decode cX6_puts 69 = .ok (.iload_n 3, 1) := by decide +kernel
theorem dX6_puts_70 : decode cX6_puts 70 = .ok (.dup2, 1) := by decide +kernel
theorem dX6_puts_71 : decode cX6_puts 71 = .ok (.iaload, 1) := by decide +kernel
theorem dX6_puts_72 : decode cX6_puts 72 = .ok (.iconst 1, 1) := by decide +kernel
theorem dX6_puts_73 : decode cX6_puts 73 = .ok (.iadd, 1) := by decide +kernel
theorem dX6_puts_74 : decode cX6_puts 74 = .ok (.iastore, 1) := by decide +kernel
theorem dX6_puts_75 : decode cX6_puts 75 = .ok (.return_, 1) := by decide +kernel
theorem dX6_takes_0 : decode cX6_takes 0 = .ok (.aload_n 0, 1) := by decide +kernel
theorem dX6_takes_1 : decode cX6_takes 1 = .ok (.getfield 35, 3) := by decide +kernel
theorem dX6_takes_4 : decode cX6_takes 4 = .ok (.iload_n 1, 1) := by decide +kernel
theorem dX6_takes_5 : decode cX6_takes 5 = .ok (.iaload, 1) := by decide +kernel
theorem dX6_takes_6 : decode cX6_takes 6 = .ok (.istore_n 2, 1) := by decide +kernel
theorem dX6_takes_7 : decode cX6_takes 7 = .ok (.iconst 0, 1) := by decide +kernel
theorem dX6_takes_8 : decode cX6_takes 8 = .ok (.istore_n 3, 1) := by decide +kernel
theorem dX6_takes_9 : decode cX6_takes 9 = .ok (.aload_n 0, 1) := by decide +kernel
theorem dX6_takes_10 : decode cX6_takes 10 = .ok (.getfield 22, 3) := by decide +kernel
theorem dX6_takes_13 : decode cX6_takes 13 = .ok (.bipush 32, 2) := by decide +kernel
theorem dX6_takes_15 : decode cX6_takes 15 = .ok (.iload_n 2, 1) := by decide +kernel
theorem dX6_takes_16 : decode cX6_takes 16 = .ok (.imul, 1) := by decide +kernel
theorem dX6_takes_17 : decode cX6_takes 17 = .ok (.iload_n 3, 1) := by decide +kernel
theorem dX6_takes_18 : decode cX6_takes 18 = .ok (.iadd, 1) := by decide +kernel
theorem dX6_takes_19 : decode cX6_takes 19 = .ok (.iaload, 1) := by decide +kernel
theorem dX6_takes_20 : decode cX6_takes 20 = .ok (.iload_n 1, 1) := by decide +kernel
theorem dX6_takes_21 : decode cX6_takes 21 = .ok (.if_icmp .eq 9, 3) := by decide +kernel
theorem dX6_takes_24 : decode cX6_takes 24 = .ok (.iinc 3 1, 3) := by decide +kernel
theorem dX6_takes_27 : decode cX6_takes 27 = .ok (.goto (-18), 3) := by decide +kernel
theorem dX6_takes_30 : decode cX6_takes 30 = .ok (.aload_n 0, 1) := by decide +kernel
theorem dX6_takes_31 : decode cX6_takes 31 = .ok (.getfield 19, 3) := by decide +kernel
theorem dX6_takes_34 : decode cX6_takes 34 = .ok (.iload_n 2, 1) := by decide +kernel
theorem dX6_takes_35 : decode cX6_takes 35 = .ok (.dup2, 1) := by decide +kernel
theorem dX6_takes_36 : decode cX6_takes 36 = .ok (.iaload, 1) := by decide +kernel
theorem dX6_takes_37 : decode cX6_takes 37 = .ok (.iconst 1, 1) := by decide +kernel
theorem dX6_takes_38 : decode cX6_takes 38 = .ok (.isub, 1) := by decide +kernel
theorem dX6_takes_39 : decode cX6_takes 39 = .ok (.iastore, 1) := by decide +kernel
theorem dX6_takes_40 : decode cX6_takes 40 = .ok (.iload_n 3, 1) := by decide +kernel
theorem dX6_takes_41 : decode cX6_takes 41 = .ok (.istore 4, 2) := by decide +kernel
theorem dX6_takes_43 : decode cX6_takes 43 = .ok (.iload 4, 2) := by decide +kernel
theorem dX6_takes_45 : decode cX6_takes 45 = .ok (.aload_n 0, 1) := by decide +kernel
theorem dX6_takes_46 : decode cX6_takes 46 = .ok (.getfield 19, 3) := by decide +kernel
theorem dX6_takes_49 : decode cX6_takes 49 = .ok (.iload_n 2, 1) := by decide +kernel
theorem dX6_takes_50 : decode cX6_takes 50 = .ok (.iaload, 1) := by decide +kernel
theorem dX6_takes_51 : decode cX6_takes 51 = .ok (.if_icmp .ge 35, 3) := by decide +kernel
theorem dX6_takes_54 : decode cX6_takes 54 = .ok (.aload_n 0, 1) := by decide +kernel
theorem dX6_takes_55 : decode cX6_takes 55 = .ok (.getfield 22, 3) := by decide +kernel
theorem dX6_takes_58 : decode cX6_takes 58 = .ok (.bipush 32, 2) := by decide +kernel
theorem dX6_takes_60 : decode cX6_takes 60 = .ok (.iload_n 2, 1) := by decide +kernel
theorem dX6_takes_61 : decode cX6_takes 61 = .ok (.imul, 1) := by decide +kernel
theorem dX6_takes_62 : decode cX6_takes 62 = .ok (.iload 4, 2) := by decide +kernel
theorem dX6_takes_64 : decode cX6_takes 64 = .ok (.iadd, 1) := by decide +kernel
theorem dX6_takes_65 : decode cX6_takes 65 = .ok (.aload_n 0, 1) := by decide +kernel
theorem dX6_takes_66 : decode cX6_takes 66 = .ok (.getfield 22, 3) := by decide +kernel
theorem dX6_takes_69 : decode cX6_takes 69 = .ok (.bipush 32, 2) := by decide +kernel
theorem dX6_takes_71 : decode cX6_takes 71 = .ok (.iload_n 2, 1) := by decide +kernel
theorem dX6_takes_72 : decode cX6_takes 72 = .ok (.imul, 1) := by decide +kernel
theorem dX6_takes_73 : decode cX6_takes 73 = .ok (.iload 4, 2) := by decide +kernel
theorem dX6_takes_75 : decode cX6_takes 75 = .ok (.iadd, 1) := by decide +kernel
theorem dX6_takes_76 : decode cX6_takes 76 = .ok (.iconst 1, 1) := by decide +kernel
theorem dX6_takes_77 : decode cX6_takes 77 = .ok (.iadd, 1) := by decide +kernel
theorem dX6_takes_78 : decode cX6_takes 78 = .ok (.iaload, 1) := by decide +kernel
theorem dX6_takes_79 : decode cX6_takes 79 = .ok (.iastore, 1) := by decide +kernel
theorem dX6_takes_80 : decode cX6_takes 80 = .ok (.iinc 4 1, 3) := by decide +kernel
theorem dX6_takes_83 : decode cX6_takes 83 = .ok (.goto (-40), 3) := by decide +kernel
theorem dX6_takes_86 : decode cX6_takes 86 = .ok (.return_, 1) := by decide +kernel
theorem dX6_bars_0 : decode cX6_bars 0 = .ok (.aload_n 0, 1) := by decide +kernel
theorem dX6_bars_1 : decode cX6_bars 1 = .ok (.iload_n 1, 1) := by decide +kernel
theorem dX6_bars_2 : decode cX6_bars 2 = .ok (.invokevirtual 127, 3) := by decide +kernel
theorem dX6_bars_5 : decode cX6_bars 5 = .ok (.ifCond .ne 7, 3) := by decide +kernel
theorem dX6_bars_8 : decode cX6_bars 8 = .ok (.iconst 1, 1) := by decide +kernel
theorem dX6_bars_9 : decode cX6_bars 9 = .ok (.goto 26, 3) := by decide +kernel
theorem dX6_bars_12 : decode cX6_bars 12 = .ok (.aload_n 0, 1) := by decide +kernel
theorem dX6_bars_13 : decode cX6_bars 13 = .ok (.getfield 31, 3) := by decide +kernel
theorem dX6_bars_16 : decode cX6_bars 16 = .ok (.iload_n 1, 1) := by decide +kernel
theorem dX6_bars_17 : decode cX6_bars 17 = .ok (.baload, 1) := by decide +kernel
theorem dX6_bars_18 : decode cX6_bars 18 = .ok (.ifCond .ne 12, 3) := by decide +kernel
theorem dX6_bars_21 : decode cX6_bars 21 = .ok (.aload_n 0, 1) := by decide +kernel
theorem dX6_bars_22 : decode cX6_bars 22 = .ok (.getfield 28, 3) := by decide +kernel
theorem dX6_bars_25 : decode cX6_bars 25 = .ok (.iload_n 1, 1) := by decide +kernel
theorem dX6_bars_26 : decode cX6_bars 26 = .ok (.iaload, 1) := by decide +kernel
theorem dX6_bars_27 : decode cX6_bars 27 = .ok (.ifCond .ne 7, 3) := by decide +kernel
theorem dX6_bars_30 : decode cX6_bars 30 = .ok (.iconst 2, 1) := by decide +kernel
theorem dX6_bars_31 : decode cX6_bars 31 = .ok (.goto 4, 3) := by decide +kernel
theorem dX6_bars_34 : decode cX6_bars 34 = .ok (.iconst 0, 1) := by decide +kernel
theorem dX6_bars_35 : decode cX6_bars 35 = .ok (.ireturn, 1) := by decide +kernel
theorem dX6_place_0 : decode cX6_place 0 = .ok (.aload_n 0, 1) := by decide +kernel
theorem dX6_place_1 : decode cX6_place 1 = .ok (.aload_n 0, 1) := by decide +kernel
theorem dX6_place_2 : decode cX6_place 2 = .ok (.iload_n 1, 1) := by decide +kernel
theorem dX6_place_3 : decode cX6_place 3 = .ok (.invokevirtual 133, 3) := by decide +kernel
theorem dX6_place_6 : decode cX6_place 6 = .ok (.putfield 74, 3) := by decide +kernel
theorem dX6_place_9 : decode cX6_place 9 = .ok (.aload_n 0, 1) := by decide +kernel
theorem dX6_place_10 : decode cX6_place 10 = .ok (.getfield 74, 3) := by decide +kernel
theorem dX6_place_13 : decode cX6_place 13 = .ok (.ifCond .le 5, 3) := by decide +kernel
theorem dX6_place_16 : decode cX6_place 16 = .ok (.iconst 0, 1) := by decide +kernel
theorem dX6_place_17 : decode cX6_place 17 = .ok (.ireturn, 1) := by decide +kernel
theorem dX6_place_18 : decode cX6_place 18 = .ok (.iconst 0, 1) := by decide +kernel
theorem dX6_place_19 : decode cX6_place 19 = .ok (.istore_n 2, 1) := by decide +kernel
theorem dX6_place_20 : decode cX6_place 20 = .ok (.iload_n 2, 1) := by decide +kernel
theorem dX6_place_21 : decode cX6_place 21 = .ok (.aload_n 0, 1) := by decide +kernel
theorem dX6_place_22 : decode cX6_place 22 = .ok (.getfield 28, 3) := by decide +kernel
theorem dX6_place_25 : decode cX6_place 25 = .ok (.iload_n 1, 1) := by decide +kernel
theorem dX6_place_26 : decode cX6_place 26 = .ok (.iaload, 1) := by decide +kernel
theorem dX6_place_27 : decode cX6_place 27 = .ok (.if_icmp .ge 31, 3) := by decide +kernel
theorem dX6_place_30 : decode cX6_place 30 = .ok (.iconst 4, 1) := by decide +kernel
theorem dX6_place_31 : decode cX6_place 31 = .ok (.iload_n 1, 1) := by decide +kernel
theorem dX6_place_32 : decode cX6_place 32 = .ok (.imul, 1) := by decide +kernel
theorem dX6_place_33 : decode cX6_place 33 = .ok (.iload_n 2, 1) := by decide +kernel
theorem dX6_place_34 : decode cX6_place 34 = .ok (.iadd, 1) := by decide +kernel
theorem dX6_place_35 : decode cX6_place 35 = .ok (.istore_n 3, 1) := by decide +kernel
theorem dX6_place_36 : decode cX6_place 36 = .ok (.aload_n 0, 1) := by decide +kernel
theorem dX6_place_37 : decode cX6_place 37 = .ok (.iload_n 3, 1) := by decide +kernel
theorem dX6_place_38 : decode cX6_place 38 = .ok (.aload_n 0, 1) := by decide +kernel
theorem dX6_place_39 : decode cX6_place 39 = .ok (.getfield 19, 3) := by decide +kernel
theorem dX6_place_42 : decode cX6_place 42 = .ok (.aload_n 0, 1) := by decide +kernel
theorem dX6_place_43 : decode cX6_place 43 = .ok (.getfield 35, 3) := by decide +kernel
theorem dX6_place_46 : decode cX6_place 46 = .ok (.iload_n 3, 1) := by decide +kernel
theorem dX6_place_47 : decode cX6_place 47 = .ok (.iaload, 1) := by decide +kernel
theorem dX6_place_48 : decode cX6_place 48 = .ok (.iaload, 1) := by decide +kernel
theorem dX6_place_49 : decode cX6_place 49 = .ok (.invokevirtual 136, 3) := by decide +kernel
theorem dX6_place_52 : decode cX6_place 52 = .ok (.iinc 2 1, 3) := by decide +kernel
theorem dX6_place_55 : decode cX6_place 55 = .ok (.goto (-35), 3) := by decide +kernel
theorem dX6_place_58 : decode cX6_place 58 = .ok (.aload_n 0, 1) := by decide +kernel
theorem dX6_place_59 : decode cX6_place 59 = .ok (.getfield 31, 3) := by decide +kernel
theorem dX6_place_62 : decode cX6_place 62 = .ok (.iload_n 1, 1) := by decide +kernel
theorem dX6_place_63 : decode cX6_place 63 = .ok (.iconst 1, 1) := by decide +kernel
theorem dX6_place_64 : decode cX6_place 64 = .ok (.bastore, 1) := by decide +kernel
theorem dX6_place_65 : decode cX6_place 65 = .ok (.aload_n 0, 1) := by decide +kernel
theorem dX6_place_66 : decode cX6_place 66 = .ok (.invokevirtual 113, 3) := by decide +kernel
theorem dX6_place_69 : decode cX6_place 69 = .ok (.ireturn, 1) := by decide +kernel
theorem dX6_rushes_0 : decode cX6_rushes 0 = .ok (.iconst (-1), 1) := by decide +kernel
theorem dX6_rushes_1 : decode cX6_rushes 1 = .ok (.istore_n 2, 1) := by decide +kernel
theorem dX6_rushes_2 : decode cX6_rushes 2 = .ok (.iconst 0, 1) := by decide +kernel
theorem dX6_rushes_3 : decode cX6_rushes 3 = .ok (.istore_n 3, 1) := by decide +kernel
theorem dX6_rushes_4 : decode cX6_rushes 4 = .ok (.iconst 0, 1) := by decide +kernel
theorem dX6_rushes_5 : decode cX6_rushes 5 = .ok (.istore 4, 2) := by decide +kernel
theorem dX6_rushes_7 : decode cX6_rushes 7 = .ok (.aload_n 0, 1) := by decide +kernel
theorem dX6_rushes_8 : decode cX6_rushes 8 = .ok (.getfield 19, 3) := by decide +kernel
theorem dX6_rushes_11 : decode cX6_rushes 11 = .ok (.aload_n 0, 1) := by decide +kernel
theorem dX6_rushes_12 : decode cX6_rushes 12 = .ok (.getfield 35, 3) := by decide +kernel
theorem dX6_rushes_15 : decode cX6_rushes 15 = .ok (.iload_n 1, 1) := by decide +kernel
theorem dX6_rushes_16 : decode cX6_rushes 16 = .ok (.iaload, 1) := by decide +kernel
theorem dX6_rushes_17 : decode cX6_rushes 17 = .ok (.iaload, 1) := by decide +kernel
theorem dX6_rushes_18 : decode cX6_rushes 18 = .ok (.istore 5, 2) := by decide +kernel
theorem dX6_rushes_20 : decode cX6_rushes 20 = .ok (.iconst 0, 1) := by decide +kernel
theorem dX6_rushes_21 : decode cX6_rushes 21 = .ok (.istore 6, 2) := by decide +kernel
theorem dX6_rushes_23 : decode cX6_rushes 23 = .ok (.iload 6, 2) := by decide +kernel
theorem dX6_rushes_25 : decode cX6_rushes 25 = .ok (.iload 5, 2) := by decide +kernel
theorem dX6_rushes_27 : decode cX6_rushes 27 = .ok (.if_icmp .gt 92, 3) := by decide +kernel
theorem dX6_rushes_30 : decode cX6_rushes 30 = .ok (.aload_n 0, 1) := by decide +kernel
theorem dX6_rushes_31 : decode cX6_rushes 31 = .ok (.iload_n 1, 1) := by decide +kernel
theorem dX6_rushes_32 : decode cX6_rushes 32 = .ok (.iload 6, 2) := by decide +kernel
theorem dX6_rushes_34 : decode cX6_rushes 34 = .ok (.invokevirtual 136, 3) := by decide +kernel
theorem dX6_rushes_37 : decode cX6_rushes 37 = .ok (.aload_n 0, 1) := by decide +kernel
theorem dX6_rushes_38 : decode cX6_rushes 38 = .ok (.invokevirtual 105, 3) := by decide +kernel
theorem dX6_rushes_41 : decode cX6_rushes 41 = .ok (.istore 7, 2) := by decide +kernel
theorem dX6_rushes_43 : decode cX6_rushes 43 = .ok (.aload_n 0, 1) := by decide +kernel
theorem dX6_rushes_44 : decode cX6_rushes 44 = .ok (.invokevirtual 109, 3) := by decide +kernel
theorem dX6_rushes_47 : decode cX6_rushes 47 = .ok (.istore 8, 2) := by decide +kernel
theorem dX6_rushes_49 : decode cX6_rushes 49 = .ok (.iload_n 2, 1) := by decide +kernel
theorem dX6_rushes_50 : decode cX6_rushes 50 = .ok (.iconst (-1), 1) := by decide +kernel
theorem dX6_rushes_51 : decode cX6_rushes 51 = .ok (.if_icmp .eq 26, 3) := by decide +kernel
theorem dX6_rushes_54 : decode cX6_rushes 54 = .ok (.iload 8, 2) := by decide +kernel
theorem dX6_rushes_56 : decode cX6_rushes 56 = .ok (.iload_n 3, 1) := by decide +kernel
theorem dX6_rushes_57 : decode cX6_rushes 57 = .ok (.if_icmp .lt 20, 3) := by decide +kernel
theorem dX6_rushes_60 : decode cX6_rushes 60 = .ok (.iload 8, 2) := by decide +kernel
theorem dX6_rushes_62 : decode cX6_rushes 62 = .ok (.iload_n 3, 1) := by decide +kernel
theorem dX6_rushes_63 : decode cX6_rushes 63 = .ok (.if_icmp .ne 18, 3) := by decide +kernel
theorem dX6_rushes_66 : decode cX6_rushes 66 = .ok (.aload_n 0, 1) := by decide +kernel
theorem dX6_rushes_67 : decode cX6_rushes 67 = .ok (.getfield 59, 3) := by decide +kernel
theorem dX6_rushes_70 : decode cX6_rushes 70 = .ok (.iload_n 1, 1) := by decide +kernel
theorem dX6_rushes_71 : decode cX6_rushes 71 = .ok (.iaload, 1) := by decide +kernel
theorem dX6_rushes_72 : decode cX6_rushes 72 = .ok (.iload 4, 2) := by decide +kernel
theorem dX6_rushes_74 : decode cX6_rushes 74 = .ok (.if_icmp .ge 7, 3) := by decide +kernel
theorem dX6_rushes_77 : decode cX6_rushes 77 = .ok (.iconst 1, 1) := by decide +kernel
theorem dX6_rushes_78 : decode cX6_rushes 78 = .ok (.goto 4, 3) := by decide +kernel
theorem dX6_rushes_81 : decode cX6_rushes 81 = .ok (.iconst 0, 1) := by decide +kernel
theorem dX6_rushes_82 : decode cX6_rushes 82 = .ok (.istore 9, 2) := by decide +kernel
theorem dX6_rushes_84 : decode cX6_rushes 84 = .ok (.iload 7, 2) := by decide +kernel
theorem dX6_rushes_86 : decode cX6_rushes 86 = .ok (.ifCond .eq 22, 3) := by decide +kernel
theorem dX6_rushes_89 : decode cX6_rushes 89 = .ok (.iload 9, 2) := by decide +kernel
theorem dX6_rushes_91 : decode cX6_rushes 91 = .ok (.ifCond .eq 17, 3) := by decide +kernel
theorem dX6_rushes_94 : decode cX6_rushes 94 = .ok (.iload 6, 2) := by decide +kernel
theorem dX6_rushes_96 : decode cX6_rushes 96 = .ok (.istore_n 2, 1) := by decide +kernel
theorem dX6_rushes_97 : decode cX6_rushes 97 = .ok (.iload 8, 2) := by decide +kernel
theorem dX6_rushes_99 : decode cX6_rushes 99 = .ok (.istore_n 3, 1) := by decide +kernel
theorem dX6_rushes_100 : decode cX6_rushes 100 = .ok (.aload_n 0, 1) := by decide +kernel
theorem dX6_rushes_101 : decode cX6_rushes 101 = .ok (.getfield 59, 3) := by decide +kernel
theorem dX6_rushes_104 : decode cX6_rushes 104 = .ok (.iload_n 1, 1) := by decide +kernel
theorem dX6_rushes_105 : decode cX6_rushes 105 = .ok (.iaload, 1) := by decide +kernel
theorem dX6_rushes_106 : decode cX6_rushes 106 = .ok (.istore 4, 2) := by decide +kernel
theorem dX6_rushes_108 : decode cX6_rushes 108 = .ok (.aload_n 0, 1) := by decide +kernel
theorem dX6_rushes_109 : decode cX6_rushes 109 = .ok (.iload_n 1, 1) := by decide +kernel
theorem dX6_rushes_110 : decode cX6_rushes 110 = .ok (.invokevirtual 140, 3) := by decide +kernel
theorem dX6_rushes_113 : decode cX6_rushes 113 = .ok (.iinc 6 1, 3) := by decide +kernel
theorem dX6_rushes_116 : decode cX6_rushes 116 = .ok (.goto (-93), 3) := by decide +kernel
theorem dX6_rushes_119 : decode cX6_rushes 119 = .ok (.aload_n 0, 1) := by decide +kernel
theorem dX6_rushes_120 : decode cX6_rushes 120 = .ok (.iload_n 1, 1) := by decide +kernel
theorem dX6_rushes_121 : decode cX6_rushes 121 = .ok (.iload_n 2, 1) := by decide +kernel
theorem dX6_rushes_122 : decode cX6_rushes 122 = .ok (.invokevirtual 136, 3) := by decide +kernel
theorem dX6_rushes_125 : decode cX6_rushes 125 = .ok (.return_, 1) := by decide +kernel
theorem dX6_rush_0 : decode cX6_rush 0 = .ok (.aload_n 0, 1) := by decide +kernel
theorem dX6_rush_1 : decode cX6_rush 1 = .ok (.aload_n 0, 1) := by decide +kernel
theorem dX6_rush_2 : decode cX6_rush 2 = .ok (.iload_n 1, 1) := by decide +kernel
theorem dX6_rush_3 : decode cX6_rush 3 = .ok (.invokevirtual 133, 3) := by decide +kernel
theorem dX6_rush_6 : decode cX6_rush 6 = .ok (.putfield 74, 3) := by decide +kernel
theorem dX6_rush_9 : decode cX6_rush 9 = .ok (.aload_n 0, 1) := by decide +kernel
theorem dX6_rush_10 : decode cX6_rush 10 = .ok (.getfield 74, 3) := by decide +kernel
theorem dX6_rush_13 : decode cX6_rush 13 = .ok (.ifCond .le 5, 3) := by decide +kernel
theorem dX6_rush_16 : decode cX6_rush 16 = .ok (.iconst 0, 1) := by decide +kernel
theorem dX6_rush_17 : decode cX6_rush 17 = .ok (.ireturn, 1) := by decide +kernel
theorem dX6_rush_18 : decode cX6_rush 18 = .ok (.iconst 0, 1) := by decide +kernel
theorem dX6_rush_19 : decode cX6_rush 19 = .ok (.istore_n 2, 1) := by decide +kernel
theorem dX6_rush_20 : decode cX6_rush 20 = .ok (.iload_n 2, 1) := by decide +kernel
theorem dX6_rush_21 : decode cX6_rush 21 = .ok (.aload_n 0, 1) := by decide +kernel
theorem dX6_rush_22 : decode cX6_rush 22 = .ok (.getfield 28, 3) := by decide +kernel
theorem dX6_rush_25 : decode cX6_rush 25 = .ok (.iload_n 1, 1) := by decide +kernel
theorem dX6_rush_26 : decode cX6_rush 26 = .ok (.iaload, 1) := by decide +kernel
theorem dX6_rush_27 : decode cX6_rush 27 = .ok (.if_icmp .ge 18, 3) := by decide +kernel
theorem dX6_rush_30 : decode cX6_rush 30 = .ok (.aload_n 0, 1) := by decide +kernel
theorem dX6_rush_31 : decode cX6_rush 31 = .ok (.iconst 4, 1) := by decide +kernel
theorem dX6_rush_32 : decode cX6_rush 32 = .ok (.iload_n 1, 1) := by decide +kernel
theorem dX6_rush_33 : decode cX6_rush 33 = .ok (.imul, 1) := by decide +kernel
theorem dX6_rush_34 : decode cX6_rush 34 = .ok (.iload_n 2, 1) := by decide +kernel
theorem dX6_rush_35 : decode cX6_rush 35 = .ok (.iadd, 1) := by decide +kernel
theorem dX6_rush_36 : decode cX6_rush 36 = .ok (.invokevirtual 144, 3) := by decide +kernel
theorem dX6_rush_39 : decode cX6_rush 39 = .ok (.iinc 2 1, 3) := by decide +kernel
theorem dX6_rush_42 : decode cX6_rush 42 = .ok (.goto (-22), 3) := by decide +kernel
theorem dX6_rush_45 : decode cX6_rush 45 = .ok (.aload_n 0, 1) := by decide +kernel
theorem dX6_rush_46 : decode cX6_rush 46 = .ok (.getfield 31, 3) := by decide +kernel
theorem dX6_rush_49 : decode cX6_rush 49 = .ok (.iload_n 1, 1) := by decide +kernel
theorem dX6_rush_50 : decode cX6_rush 50 = .ok (.iconst 1, 1) := by decide +kernel
theorem dX6_rush_51 : decode cX6_rush 51 = .ok (.bastore, 1) := by decide +kernel
theorem dX6_rush_52 : decode cX6_rush 52 = .ok (.aload_n 0, 1) := by decide +kernel
theorem dX6_rush_53 : decode cX6_rush 53 = .ok (.invokevirtual 113, 3) := by decide +kernel
theorem dX6_rush_56 : decode cX6_rush 56 = .ok (.ireturn, 1) := by decide +kernel
theorem dX6_remove_0 : decode cX6_remove 0 = .ok (.aload_n 0, 1) := by decide +kernel
theorem dX6_remove_1 : decode cX6_remove 1 = .ok (.aload_n 0, 1) := by decide +kernel
theorem dX6_remove_2 : decode cX6_remove 2 = .ok (.iload_n 1, 1) := by decide +kernel
theorem dX6_remove_3 : decode cX6_remove 3 = .ok (.invokevirtual 127, 3) := by decide +kernel
theorem dX6_remove_6 : decode cX6_remove 6 = .ok (.ifCond .ne 7, 3) := by decide +kernel
theorem dX6_remove_9 : decode cX6_remove 9 = .ok (.iconst 1, 1) := by decide +kernel
theorem dX6_remove_10 : decode cX6_remove 10 = .ok (.goto 17, 3) := by decide +kernel
theorem dX6_remove_13 : decode cX6_remove 13 = .ok (.aload_n 0, 1) := by decide +kernel
theorem dX6_remove_14 : decode cX6_remove 14 = .ok (.getfield 31, 3) := by decide +kernel
theorem dX6_remove_17 : decode cX6_remove 17 = .ok (.iload_n 1, 1) := by decide +kernel
theorem dX6_remove_18 : decode cX6_remove 18 = .ok (.baload, 1) := by decide +kernel
theorem dX6_remove_19 : decode cX6_remove 19 = .ok (.ifCond .eq 7, 3) := by decide +kernel
theorem dX6_remove_22 : decode cX6_remove 22 = .ok (.iconst 0, 1) := by decide +kernel
theorem dX6_remove_23 : decode cX6_remove 23 = .ok (.goto 4, 3) := by decide +kernel
theorem dX6_remove_26 : decode cX6_remove 26 = .ok (.iconst 2, 1) := by decide +kernel
theorem dX6_remove_27 : decode cX6_remove 27 = .ok (.putfield 74, 3) := by decide +kernel
theorem dX6_remove_30 : decode cX6_remove 30 = .ok (.aload_n 0, 1) := by decide +kernel
theorem dX6_remove_31 : decode cX6_remove 31 = .ok (.getfield 74, 3) := by decide +kernel
theorem dX6_remove_34 : decode cX6_remove 34 = .ok (.ifCond .le 5, 3) := by decide +kernel
theorem dX6_remove_37 : decode cX6_remove 37 = .ok (.iconst 0, 1) := by decide +kernel
theorem dX6_remove_38 : decode cX6_remove 38 = .ok (.ireturn, 1) := by decide +kernel
theorem dX6_remove_39 : decode cX6_remove 39 = .ok (.iconst 0, 1) := by decide +kernel
theorem dX6_remove_40 : decode cX6_remove 40 = .ok (.istore_n 2, 1) := by decide +kernel
theorem dX6_remove_41 : decode cX6_remove 41 = .ok (.iload_n 2, 1) := by decide +kernel
theorem dX6_remove_42 : decode cX6_remove 42 = .ok (.aload_n 0, 1) := by decide +kernel
theorem dX6_remove_43 : decode cX6_remove 43 = .ok (.getfield 28, 3) := by decide +kernel
theorem dX6_remove_46 : decode cX6_remove 46 = .ok (.iload_n 1, 1) := by decide +kernel
theorem dX6_remove_47 : decode cX6_remove 47 = .ok (.iaload, 1) := by decide +kernel
theorem dX6_remove_48 : decode cX6_remove 48 = .ok (.if_icmp .ge 18, 3) := by decide +kernel
theorem dX6_remove_51 : decode cX6_remove 51 = .ok (.aload_n 0, 1) := by decide +kernel
theorem dX6_remove_52 : decode cX6_remove 52 = .ok (.iconst 4, 1) := by decide +kernel
theorem dX6_remove_53 : decode cX6_remove 53 = .ok (.iload_n 1, 1) := by decide +kernel
theorem dX6_remove_54 : decode cX6_remove 54 = .ok (.imul, 1) := by decide +kernel
theorem dX6_remove_55 : decode cX6_remove 55 = .ok (.iload_n 2, 1) := by decide +kernel
theorem dX6_remove_56 : decode cX6_remove 56 = .ok (.iadd, 1) := by decide +kernel
theorem dX6_remove_57 : decode cX6_remove 57 = .ok (.invokevirtual 140, 3) := by decide +kernel
theorem dX6_remove_60 : decode cX6_remove 60 = .ok (.iinc 2 1, 3) := by decide +kernel
theorem dX6_remove_63 : decode cX6_remove 63 = .ok (.goto (-22), 3) := by decide +kernel
theorem dX6_remove_66 : decode cX6_remove 66 = .ok (.aload_n 0, 1) := by decide +kernel
theorem dX6_remove_67 : decode cX6_remove 67 = .ok (.getfield 31, 3) := by decide +kernel
theorem dX6_remove_70 : decode cX6_remove 70 = .ok (.iload_n 1, 1) := by decide +kernel
theorem dX6_remove_71 : decode cX6_remove 71 = .ok (.iconst 0, 1) := by decide +kernel
theorem dX6_remove_72 : decode cX6_remove 72 = .ok (.bastore, 1) := by decide +kernel
theorem dX6_remove_73 : decode cX6_remove 73 = .ok (.aload_n 0, 1) := by decide +kernel
theorem dX6_remove_74 : decode cX6_remove 74 = .ok (.invokevirtual 113, 3) := by decide +kernel
theorem dX6_remove_77 : decode cX6_remove 77 = .ok (.ireturn, 1) := by decide +kernel
theorem dX6_exchanges_0 : decode cX6_exchanges 0 = .ok (.bipush 32, 2) := by decide +kernel
theorem dX6_exchanges_2 : decode cX6_exchanges 2 = .ok (.iload_n 1, 1) := by decide +kernel
theorem dX6_exchanges_3 : decode cX6_exchanges 3 = .ok (.imul, 1) := by decide +kernel
theorem dX6_exchanges_4 : decode cX6_exchanges 4 = .ok (.iload_n 2, 1) := by decide +kernel
theorem dX6_exchanges_5 : decode cX6_exchanges 5 = .ok (.iadd, 1) := by decide +kernel
theorem dX6_exchanges_6 : decode cX6_exchanges 6 = .ok (.istore_n 3, 1) := by decide +kernel
theorem dX6_exchanges_7 : decode cX6_exchanges 7 = .ok (.aload_n 0, 1) := by decide +kernel
theorem dX6_exchanges_8 : decode cX6_exchanges 8 = .ok (.getfield 22, 3) := by decide +kernel
theorem dX6_exchanges_11 : decode cX6_exchanges 11 = .ok (.iload_n 3, 1) := by decide +kernel
theorem dX6_exchanges_12 : decode cX6_exchanges 12 = .ok (.iaload, 1) := by decide +kernel
theorem dX6_exchanges_13 : decode cX6_exchanges 13 = .ok (.istore 4, 2) := by decide +kernel
theorem dX6_exchanges_15 : decode cX6_exchanges 15 = .ok (.aload_n 0, 1) := by decide +kernel
theorem dX6_exchanges_16 : decode cX6_exchanges 16 = .ok (.getfield 22, 3) := by decide +kernel
theorem dX6_exchanges_19 : decode cX6_exchanges 19 = .ok (.iload_n 3, 1) := by decide +kernel
theorem dX6_exchanges_20 : decode cX6_exchanges 20 = .ok (.aload_n 0, 1) := by decide +kernel
theorem dX6_exchanges_21 : decode cX6_exchanges 21 = .ok (.getfield 22, 3) := by decide +kernel
theorem dX6_exchanges_24 : decode cX6_exchanges 24 = .ok (.iload_n 3, 1) := by decide +kernel
theorem dX6_exchanges_25 : decode cX6_exchanges 25 = .ok (.iconst 1, 1) := by decide +kernel
theorem dX6_exchanges_26 : decode cX6_exchanges 26 = .ok (.iadd, 1) := by decide +kernel
theorem dX6_exchanges_27 : decode cX6_exchanges 27 = .ok (.iaload, 1) := by decide +kernel
theorem dX6_exchanges_28 : decode cX6_exchanges 28 = .ok (.iastore, 1) := by decide +kernel
theorem dX6_exchanges_29 : decode cX6_exchanges 29 = .ok (.aload_n 0, 1) := by decide +kernel
theorem dX6_exchanges_30 : decode cX6_exchanges 30 = .ok (.getfield 22, 3) := by decide +kernel
theorem dX6_exchanges_33 : decode cX6_exchanges 33 = .ok (.iload_n 3, 1) := by decide +kernel
theorem dX6_exchanges_34 : decode cX6_exchanges 34 = .ok (.iconst 1, 1) := by decide +kernel
theorem dX6_exchanges_35 : decode cX6_exchanges 35 = .ok (.iadd, 1) := by decide +kernel
theorem dX6_exchanges_36 : decode cX6_exchanges 36 = .ok (.iload 4, 2) := by decide +kernel
theorem dX6_exchanges_38 : decode cX6_exchanges 38 = .ok (.iastore, 1) := by decide +kernel
theorem dX6_exchanges_39 : decode cX6_exchanges 39 = .ok (.return_, 1) := by decide +kernel
theorem dX6_swap_0 : decode cX6_swap 0 = .ok (.aload_n 0, 1) := by decide +kernel
theorem dX6_swap_1 : decode cX6_swap 1 = .ok (.aload_n 0, 1) := by decide +kernel
theorem dX6_swap_2 : decode cX6_swap 2 = .ok (.iload_n 1, 1) := by decide +kernel
theorem dX6_swap_3 : decode cX6_swap 3 = .ok (.invokevirtual 120, 3) := by decide +kernel
theorem dX6_swap_6 : decode cX6_swap 6 = .ok (.ifCond .eq 23, 3) := by decide +kernel
theorem dX6_swap_9 : decode cX6_swap 9 = .ok (.iload_n 2, 1) := by decide +kernel
theorem dX6_swap_10 : decode cX6_swap 10 = .ok (.iconst 0, 1) := by decide +kernel
theorem dX6_swap_11 : decode cX6_swap 11 = .ok (.aload_n 0, 1) := by decide +kernel
theorem dX6_swap_12 : decode cX6_swap 12 = .ok (.getfield 19, 3) := by decide +kernel
theorem dX6_swap_15 : decode cX6_swap 15 = .ok (.iload_n 1, 1) := by decide +kernel
theorem dX6_swap_16 : decode cX6_swap 16 = .ok (.iaload, 1) := by decide +kernel
theorem dX6_swap_17 : decode cX6_swap 17 = .ok (.iconst 2, 1) := by decide +kernel
theorem dX6_swap_18 : decode cX6_swap 18 = .ok (.isub, 1) := by decide +kernel
theorem dX6_swap_19 : decode cX6_swap 19 = .ok (.invokestatic 81, 3) := by decide +kernel
theorem dX6_swap_22 : decode cX6_swap 22 = .ok (.ifCond .eq 7, 3) := by decide +kernel
theorem dX6_swap_25 : decode cX6_swap 25 = .ok (.iconst 0, 1) := by decide +kernel
theorem dX6_swap_26 : decode cX6_swap 26 = .ok (.goto 4, 3) := by decide +kernel
theorem dX6_swap_29 : decode cX6_swap 29 = .ok (.iconst 1, 1) := by decide +kernel
theorem dX6_swap_30 : decode cX6_swap 30 = .ok (.putfield 74, 3) := by decide +kernel
theorem dX6_swap_33 : decode cX6_swap 33 = .ok (.aload_n 0, 1) := by decide +kernel
theorem dX6_swap_34 : decode cX6_swap 34 = .ok (.getfield 74, 3) := by decide +kernel
theorem dX6_swap_37 : decode cX6_swap 37 = .ok (.ifCond .le 5, 3) := by decide +kernel
theorem dX6_swap_40 : decode cX6_swap 40 = .ok (.iconst 0, 1) := by decide +kernel
theorem dX6_swap_41 : decode cX6_swap 41 = .ok (.ireturn, 1) := by decide +kernel
theorem dX6_swap_42 : decode cX6_swap 42 = .ok (.aload_n 0, 1) := by decide +kernel
theorem dX6_swap_43 : decode cX6_swap 43 = .ok (.iload_n 1, 1) := by decide +kernel
theorem dX6_swap_44 : decode cX6_swap 44 = .ok (.iload_n 2, 1) := by decide +kernel
theorem dX6_swap_45 : decode cX6_swap 45 = .ok (.invokevirtual 147, 3) := by decide +kernel
theorem dX6_swap_48 : decode cX6_swap 48 = .ok (.aload_n 0, 1) := by decide +kernel
theorem dX6_swap_49 : decode cX6_swap 49 = .ok (.invokevirtual 105, 3) := by decide +kernel
theorem dX6_swap_52 : decode cX6_swap 52 = .ok (.ifCond .ne 15, 3) := by decide +kernel
theorem dX6_swap_55 : decode cX6_swap 55 = .ok (.aload_n 0, 1) := by decide +kernel
theorem dX6_swap_56 : decode cX6_swap 56 = .ok (.iload_n 1, 1) := by decide +kernel
theorem dX6_swap_57 : decode cX6_swap 57 = .ok (.iload_n 2, 1) := by decide +kernel
theorem dX6_swap_58 : decode cX6_swap 58 = .ok (.invokevirtual 147, 3) := by decide +kernel
theorem dX6_swap_61 : decode cX6_swap 61 = .ok (.aload_n 0, 1) := by decide +kernel
theorem dX6_swap_62 : decode cX6_swap 62 = .ok (.iconst 2, 1) := by decide +kernel
theorem dX6_swap_63 : decode cX6_swap 63 = .ok (.invokevirtual 150, 3) := by decide +kernel
theorem dX6_swap_66 : decode cX6_swap 66 = .ok (.ireturn, 1) := by decide +kernel
theorem dX6_swap_67 : decode cX6_swap 67 = .ok (.aload_n 0, 1) := by decide +kernel
theorem dX6_swap_68 : decode cX6_swap 68 = .ok (.invokevirtual 109, 3) := by decide +kernel
theorem dX6_swap_71 : decode cX6_swap 71 = .ok (.ireturn, 1) := by decide +kernel
theorem dX6_placed_0 : decode cX6_placed 0 = .ok (.aload_n 0, 1) := by decide +kernel
theorem dX6_placed_1 : decode cX6_placed 1 = .ok (.iconst 0, 1) := by decide +kernel
theorem dX6_placed_2 : decode cX6_placed 2 = .ok (.putfield 74, 3) := by decide +kernel
theorem dX6_placed_5 : decode cX6_placed 5 = .ok (.aload_n 0, 1) := by decide +kernel
theorem dX6_placed_6 : decode cX6_placed 6 = .ok (.iload_n 1, 1) := by decide +kernel
theorem dX6_placed_7 : decode cX6_placed 7 = .ok (.invokevirtual 120, 3) := by decide +kernel
theorem dX6_placed_10 : decode cX6_placed 10 = .ok (.ifCond .eq 12, 3) := by decide +kernel
theorem dX6_placed_13 : decode cX6_placed 13 = .ok (.aload_n 0, 1) := by decide +kernel
theorem dX6_placed_14 : decode cX6_placed 14 = .ok (.getfield 19, 3) := by decide +kernel
theorem dX6_placed_17 : decode cX6_placed 17 = .ok (.iload_n 1, 1) := by decide +kernel
theorem dX6_placed_18 : decode cX6_placed 18 = .ok (.iaload, 1) := by decide +kernel
theorem dX6_placed_19 : decode cX6_placed 19 = .ok (.goto 8, 3) := by decide +kernel
theorem dX6_placed_22 : decode cX6_placed 22 = .ok (.aload_n 0, 1) := by decide +kernel
theorem dX6_placed_23 : decode cX6_placed 23 = .ok (.iconst 1, 1) := by decide +kernel
theorem dX6_placed_24 : decode cX6_placed 24 = .ok (.invokevirtual 150, 3) := by decide +kernel
theorem dX6_placed_27 : decode cX6_placed 27 = .ok (.ireturn, 1) := by decide +kernel
theorem dX6_code_0 : decode cX6_code 0 = .ok (.bipush 10, 2) := by decide +kernel
theorem dX6_code_2 : decode cX6_code 2 = .ok (.iload_n 0, 1) := by decide +kernel
theorem dX6_code_3 : decode cX6_code 3 = .ok (.iconst 4, 1) := by decide +kernel
theorem dX6_code_4 : decode cX6_code 4 = .ok (.idiv, 1) := by decide +kernel
theorem dX6_code_5 : decode cX6_code 5 = .ok (.imul, 1) := by decide +kernel
theorem dX6_code_6 : decode cX6_code 6 = .ok (.iload_n 0, 1) := by decide +kernel
theorem dX6_code_7 : decode cX6_code 7 = .ok (.iconst 4, 1) := by decide +kernel
theorem dX6_code_8 : decode cX6_code 8 = .ok (.irem, 1) := by decide +kernel
theorem dX6_code_9 : decode cX6_code 9 = .ok (.iadd, 1) := by decide +kernel
theorem dX6_code_10 : decode cX6_code 10 = .ok (.ireturn, 1) := by decide +kernel
theorem dX6_placedAt_0 : decode cX6_placedAt 0 = .ok (.aload_n 0, 1) := by decide +kernel
theorem dX6_placedAt_1 : decode cX6_placedAt 1 = .ok (.iconst 0, 1) := by decide +kernel
theorem dX6_placedAt_2 : decode cX6_placedAt 2 = .ok (.putfield 74, 3) := by decide +kernel
theorem dX6_placedAt_5 : decode cX6_placedAt 5 = .ok (.aload_n 0, 1) := by decide +kernel
theorem dX6_placedAt_6 : decode cX6_placedAt 6 = .ok (.iload_n 1, 1) := by decide +kernel
theorem dX6_placedAt_7 : decode cX6_placedAt 7 = .ok (.invokevirtual 120, 3) := by decide +kernel
theorem dX6_placedAt_10 : decode cX6_placedAt 10 = .ok (.ifCond .eq 36, 3) := by decide +kernel
theorem dX6_placedAt_13 : decode cX6_placedAt 13 = .ok (.iload_n 2, 1) := by decide +kernel
theorem dX6_placedAt_14 : decode cX6_placedAt 14 = .ok (.iconst 0, 1) := by decide +kernel
theorem dX6_placedAt_15 : decode cX6_placedAt 15 = .ok (.aload_n 0, 1) := by decide +kernel
theorem dX6_placedAt_16 : decode cX6_placedAt 16 = .ok (.getfield 19, 3) := by decide +kernel
theorem dX6_placedAt_19 : decode cX6_placedAt 19 = .ok (.iload_n 1, 1) := by decide +kernel
theorem dX6_placedAt_20 : decode cX6_placedAt 20 = .ok (.iaload, 1) := by decide +kernel
theorem dX6_placedAt_21 : decode cX6_placedAt 21 = .ok (.iconst 1, 1) := by decide +kernel
theorem dX6_placedAt_22 : decode cX6_placedAt 22 = .ok (.isub, 1) := by decide +kernel
theorem dX6_placedAt_23 : decode cX6_placedAt 23 = .ok (.invokestatic 81, 3) := by decide +kernel
theorem dX6_placedAt_26 : decode cX6_placedAt 26 = .ok (.ifCond .eq 20, 3) := by decide +kernel
theorem dX6_placedAt_29 : decode cX6_placedAt 29 = .ok (.aload_n 0, 1) := by decide +kernel
theorem dX6_placedAt_30 : decode cX6_placedAt 30 = .ok (.getfield 22, 3) := by decide +kernel
theorem dX6_placedAt_33 : decode cX6_placedAt 33 = .ok (.bipush 32, 2) := by decide +kernel
theorem dX6_placedAt_35 : decode cX6_placedAt 35 = .ok (.iload_n 1, 1) := by decide +kernel
theorem dX6_placedAt_36 : decode cX6_placedAt 36 = .ok (.imul, 1) := by decide +kernel
theorem dX6_placedAt_37 : decode cX6_placedAt 37 = .ok (.iload_n 2, 1) := by decide +kernel
theorem dX6_placedAt_38 : decode cX6_placedAt 38 = .ok (.iadd, 1) := by decide +kernel
theorem dX6_placedAt_39 : decode cX6_placedAt 39 = .ok (.iaload, 1) := by decide +kernel
theorem dX6_placedAt_40 : decode cX6_placedAt 40 = .ok (.invokestatic 153, 3) := by decide +kernel
theorem dX6_placedAt_43 : decode cX6_placedAt 43 = .ok (.goto 8, 3) := by decide +kernel
theorem dX6_placedAt_46 : decode cX6_placedAt 46 = .ok (.aload_n 0, 1) := by decide +kernel
theorem dX6_placedAt_47 : decode cX6_placedAt 47 = .ok (.iconst 1, 1) := by decide +kernel
theorem dX6_placedAt_48 : decode cX6_placedAt 48 = .ok (.invokevirtual 150, 3) := by decide +kernel
theorem dX6_placedAt_51 : decode cX6_placedAt 51 = .ok (.ireturn, 1) := by decide +kernel
theorem dX6_isAsked_0 : decode cX6_isAsked 0 = .ok (.aload_n 0, 1) := by decide +kernel
theorem dX6_isAsked_1 : decode cX6_isAsked 1 = .ok (.aload_n 0, 1) := by decide +kernel
theorem dX6_isAsked_2 : decode cX6_isAsked 2 = .ok (.iload_n 1, 1) := by decide +kernel
theorem dX6_isAsked_3 : decode cX6_isAsked 3 = .ok (.invokevirtual 127, 3) := by decide +kernel
theorem dX6_isAsked_6 : decode cX6_isAsked 6 = .ok (.ifCond .eq 19, 3) := by decide +kernel
theorem dX6_isAsked_9 : decode cX6_isAsked 9 = .ok (.iload_n 2, 1) := by decide +kernel
theorem dX6_isAsked_10 : decode cX6_isAsked 10 = .ok (.iconst 0, 1) := by decide +kernel
theorem dX6_isAsked_11 : decode cX6_isAsked 11 = .ok (.aload_n 0, 1) := by decide +kernel
theorem dX6_isAsked_12 : decode cX6_isAsked 12 = .ok (.getfield 28, 3) := by decide +kernel
theorem dX6_isAsked_15 : decode cX6_isAsked 15 = .ok (.iload_n 1, 1) := by decide +kernel
theorem dX6_isAsked_16 : decode cX6_isAsked 16 = .ok (.iaload, 1) := by decide +kernel
theorem dX6_isAsked_17 : decode cX6_isAsked 17 = .ok (.iconst 1, 1) := by decide +kernel
theorem dX6_isAsked_18 : decode cX6_isAsked 18 = .ok (.isub, 1) := by decide +kernel
theorem dX6_isAsked_19 : decode cX6_isAsked 19 = .ok (.invokestatic 81, 3) := by decide +kernel
theorem dX6_isAsked_22 : decode cX6_isAsked 22 = .ok (.ifCond .ne 7, 3) := by decide +kernel
theorem dX6_isAsked_25 : decode cX6_isAsked 25 = .ok (.iconst 1, 1) := by decide +kernel
theorem dX6_isAsked_26 : decode cX6_isAsked 26 = .ok (.goto 17, 3) := by decide +kernel
theorem dX6_isAsked_29 : decode cX6_isAsked 29 = .ok (.aload_n 0, 1) := by decide +kernel
theorem dX6_isAsked_30 : decode cX6_isAsked 30 = .ok (.getfield 31, 3) := by decide +kernel
theorem dX6_isAsked_33 : decode cX6_isAsked 33 = .ok (.iload_n 1, 1) := by decide +kernel
theorem dX6_isAsked_34 : decode cX6_isAsked 34 = .ok (.baload, 1) := by decide +kernel
theorem dX6_isAsked_35 : decode cX6_isAsked 35 = .ok (.ifCond .eq 7, 3) := by decide +kernel
theorem dX6_isAsked_38 : decode cX6_isAsked 38 = .ok (.iconst 0, 1) := by decide +kernel
theorem dX6_isAsked_39 : decode cX6_isAsked 39 = .ok (.goto 4, 3) := by decide +kernel
theorem dX6_isAsked_42 : decode cX6_isAsked 42 = .ok (.iconst 2, 1) := by decide +kernel
theorem dX6_isAsked_43 : decode cX6_isAsked 43 = .ok (.putfield 74, 3) := by decide +kernel
theorem dX6_isAsked_46 : decode cX6_isAsked 46 = .ok (.aload_n 0, 1) := by decide +kernel
theorem dX6_isAsked_47 : decode cX6_isAsked 47 = .ok (.getfield 74, 3) := by decide +kernel
theorem dX6_isAsked_50 : decode cX6_isAsked 50 = .ok (.ifCond .ne 7, 3) := by decide +kernel
theorem dX6_isAsked_53 : decode cX6_isAsked 53 = .ok (.iconst 1, 1) := by decide +kernel
theorem dX6_isAsked_54 : decode cX6_isAsked 54 = .ok (.goto 4, 3) := by decide +kernel
theorem dX6_isAsked_57 : decode cX6_isAsked 57 = .ok (.iconst 0, 1) := by decide +kernel
theorem dX6_isAsked_58 : decode cX6_isAsked 58 = .ok (.ireturn, 1) := by decide +kernel
theorem dX6_startNow_0 : decode cX6_startNow 0 = .ok (.aload_n 0, 1) := by decide +kernel
theorem dX6_startNow_1 : decode cX6_startNow 1 = .ok (.iload_n 1, 1) := by decide +kernel
theorem dX6_startNow_2 : decode cX6_startNow 2 = .ok (.iload_n 2, 1) := by decide +kernel
theorem dX6_startNow_3 : decode cX6_startNow 3 = .ok (.invokevirtual 156, 3) := by decide +kernel
theorem dX6_startNow_6 : decode cX6_startNow 6 = .ok (.istore_n 3, 1) := by decide +kernel
theorem dX6_startNow_7 : decode cX6_startNow 7 = .ok (.aload_n 0, 1) := by decide +kernel
theorem dX6_startNow_8 : decode cX6_startNow 8 = .ok (.invokevirtual 105, 3) := by decide +kernel
theorem dX6_startNow_11 : decode cX6_startNow 11 = .ok (.pop, 1) := by decide +kernel
theorem dX6_startNow_12 : decode cX6_startNow 12 = .ok (.iload_n 3, 1) := by decide +kernel
theorem dX6_startNow_13 : decode cX6_startNow 13 = .ok (.ifCond .eq 16, 3) := by decide +kernel
theorem dX6_startNow_16 : decode cX6_startNow 16 = .ok (.aload_n 0, 1) := by decide +kernel
theorem dX6_startNow_17 : decode cX6_startNow 17 = .ok (.getfield 59, 3) := by decide +kernel
theorem dX6_startNow_20 : decode cX6_startNow 20 = .ok (.iconst 4, 1) := by decide +kernel
theorem dX6_startNow_21 : decode cX6_startNow 21 = .ok (.iload_n 1, 1) := by decide +kernel
theorem dX6_startNow_22 : decode cX6_startNow 22 = .ok (.imul, 1) := by decide +kernel
theorem dX6_startNow_23 : decode cX6_startNow 23 = .ok (.iload_n 2, 1) := by decide +kernel
theorem dX6_startNow_24 : decode cX6_startNow 24 = .ok (.iadd, 1) := by decide +kernel
theorem dX6_startNow_25 : decode cX6_startNow 25 = .ok (.iaload, 1) := by decide +kernel
theorem dX6_startNow_26 : decode cX6_startNow 26 = .ok (.goto 4, 3) := by decide +kernel
theorem dX6_startNow_29 : decode cX6_startNow 29 = .ok (.iconst 0, 1) := by decide +kernel
theorem dX6_startNow_30 : decode cX6_startNow 30 = .ok (.ireturn, 1) := by decide +kernel
theorem dX6_startOf_0 : decode cX6_startOf 0 = .ok (.aload_n 0, 1) := by decide +kernel
theorem dX6_startOf_1 : decode cX6_startOf 1 = .ok (.iload_n 1, 1) := by decide +kernel
theorem dX6_startOf_2 : decode cX6_startOf 2 = .ok (.iload_n 2, 1) := by decide +kernel
theorem dX6_startOf_3 : decode cX6_startOf 3 = .ok (.invokevirtual 160, 3) := by decide +kernel
theorem dX6_startOf_6 : decode cX6_startOf 6 = .ok (.ireturn, 1) := by decide +kernel
theorem dX6_startByRounds_0 : decode cX6_startByRounds 0 = .ok (.aload_n 0, 1) := by decide +kernel
theorem dX6_startByRounds_1 : decode cX6_startByRounds 1 = .ok (.iload_n 1, 1) := by decide +kernel
theorem dX6_startByRounds_2 : decode cX6_startByRounds 2 = .ok (.iload_n 2, 1) := by decide +kernel
theorem dX6_startByRounds_3 : decode cX6_startByRounds 3 = .ok (.invokevirtual 160, 3) := by decide +kernel
theorem dX6_startByRounds_6 : decode cX6_startByRounds 6 = .ok (.ireturn, 1) := by decide +kernel
theorem dX6_lateness_0 : decode cX6_lateness 0 = .ok (.aload_n 0, 1) := by decide +kernel
theorem dX6_lateness_1 : decode cX6_lateness 1 = .ok (.aload_n 0, 1) := by decide +kernel
theorem dX6_lateness_2 : decode cX6_lateness 2 = .ok (.iload_n 1, 1) := by decide +kernel
theorem dX6_lateness_3 : decode cX6_lateness 3 = .ok (.invokevirtual 127, 3) := by decide +kernel
theorem dX6_lateness_6 : decode cX6_lateness 6 = .ok (.ifCond .ne 7, 3) := by decide +kernel
theorem dX6_lateness_9 : decode cX6_lateness 9 = .ok (.iconst 1, 1) := by decide +kernel
theorem dX6_lateness_10 : decode cX6_lateness 10 = .ok (.goto 17, 3) := by decide +kernel
theorem dX6_lateness_13 : decode cX6_lateness 13 = .ok (.aload_n 0, 1) := by decide +kernel
theorem dX6_lateness_14 : decode cX6_lateness 14 = .ok (.getfield 31, 3) := by decide +kernel
theorem dX6_lateness_17 : decode cX6_lateness 17 = .ok (.iload_n 1, 1) := by decide +kernel
theorem dX6_lateness_18 : decode cX6_lateness 18 = .ok (.baload, 1) := by decide +kernel
theorem dX6_lateness_19 : decode cX6_lateness 19 = .ok (.ifCond .eq 7, 3) := by decide +kernel
theorem dX6_lateness_22 : decode cX6_lateness 22 = .ok (.iconst 0, 1) := by decide +kernel
theorem dX6_lateness_23 : decode cX6_lateness 23 = .ok (.goto 4, 3) := by decide +kernel
theorem dX6_lateness_26 : decode cX6_lateness 26 = .ok (.iconst 2, 1) := by decide +kernel
theorem dX6_lateness_27 : decode cX6_lateness 27 = .ok (.putfield 74, 3) := by decide +kernel
theorem dX6_lateness_30 : decode cX6_lateness 30 = .ok (.aload_n 0, 1) := by decide +kernel
theorem dX6_lateness_31 : decode cX6_lateness 31 = .ok (.getfield 74, 3) := by decide +kernel
theorem dX6_lateness_34 : decode cX6_lateness 34 = .ok (.ifCond .le 5, 3) := by decide +kernel
theorem dX6_lateness_37 : decode cX6_lateness 37 = .ok (.iconst 0, 1) := by decide +kernel
theorem dX6_lateness_38 : decode cX6_lateness 38 = .ok (.ireturn, 1) := by decide +kernel
theorem dX6_lateness_39 : decode cX6_lateness 39 = .ok (.aload_n 0, 1) := by decide +kernel
theorem dX6_lateness_40 : decode cX6_lateness 40 = .ok (.invokevirtual 105, 3) := by decide +kernel
theorem dX6_lateness_43 : decode cX6_lateness 43 = .ok (.pop, 1) := by decide +kernel
theorem dX6_lateness_44 : decode cX6_lateness 44 = .ok (.aload_n 0, 1) := by decide +kernel
theorem dX6_lateness_45 : decode cX6_lateness 45 = .ok (.iconst 4, 1) := by decide +kernel
theorem dX6_lateness_46 : decode cX6_lateness 46 = .ok (.iload_n 1, 1) := by decide +kernel
theorem dX6_lateness_47 : decode cX6_lateness 47 = .ok (.imul, 1) := by decide +kernel
theorem dX6_lateness_48 : decode cX6_lateness 48 = .ok (.aload_n 0, 1) := by decide +kernel
theorem dX6_lateness_49 : decode cX6_lateness 49 = .ok (.getfield 28, 3) := by decide +kernel
theorem dX6_lateness_52 : decode cX6_lateness 52 = .ok (.iload_n 1, 1) := by decide +kernel
theorem dX6_lateness_53 : decode cX6_lateness 53 = .ok (.iaload, 1) := by decide +kernel
theorem dX6_lateness_54 : decode cX6_lateness 54 = .ok (.iadd, 1) := by decide +kernel
theorem dX6_lateness_55 : decode cX6_lateness 55 = .ok (.iconst 1, 1) := by decide +kernel
theorem dX6_lateness_56 : decode cX6_lateness 56 = .ok (.isub, 1) := by decide +kernel
theorem dX6_lateness_57 : decode cX6_lateness 57 = .ok (.invokevirtual 92, 3) := by decide +kernel
theorem dX6_lateness_60 : decode cX6_lateness 60 = .ok (.aload_n 0, 1) := by decide +kernel
theorem dX6_lateness_61 : decode cX6_lateness 61 = .ok (.getfield 25, 3) := by decide +kernel
theorem dX6_lateness_64 : decode cX6_lateness 64 = .ok (.iload_n 1, 1) := by decide +kernel
theorem dX6_lateness_65 : decode cX6_lateness 65 = .ok (.iaload, 1) := by decide +kernel
theorem dX6_lateness_66 : decode cX6_lateness 66 = .ok (.isub, 1) := by decide +kernel
theorem dX6_lateness_67 : decode cX6_lateness 67 = .ok (.istore_n 2, 1) := by decide +kernel
theorem dX6_lateness_68 : decode cX6_lateness 68 = .ok (.iload_n 2, 1) := by decide +kernel
theorem dX6_lateness_69 : decode cX6_lateness 69 = .ok (.ifCond .le 7, 3) := by decide +kernel
theorem dX6_lateness_72 : decode cX6_lateness 72 = .ok (.iload_n 2, 1) := by decide +kernel
theorem dX6_lateness_73 : decode cX6_lateness 73 = .ok (.goto 4, 3) := by decide +kernel
theorem dX6_lateness_76 : decode cX6_lateness 76 = .ok (.iconst 0, 1) := by decide +kernel
theorem dX6_lateness_77 : decode cX6_lateness 77 = .ok (.ireturn, 1) := by decide +kernel
theorem dX6_span_0 : decode cX6_span 0 = .ok (.aload_n 0, 1) := by decide +kernel
theorem dX6_span_1 : decode cX6_span 1 = .ok (.iconst 0, 1) := by decide +kernel
theorem dX6_span_2 : decode cX6_span 2 = .ok (.putfield 74, 3) := by decide +kernel
theorem dX6_span_5 : decode cX6_span 5 = .ok (.aload_n 0, 1) := by decide +kernel
theorem dX6_span_6 : decode cX6_span 6 = .ok (.invokevirtual 113, 3) := by decide +kernel
theorem dX6_span_9 : decode cX6_span 9 = .ok (.ireturn, 1) := by decide +kernel
theorem dX6_slack_0 : decode cX6_slack 0 = .ok (.aload_n 0, 1) := by decide +kernel
theorem dX6_slack_1 : decode cX6_slack 1 = .ok (.iload_n 1, 1) := by decide +kernel
theorem dX6_slack_2 : decode cX6_slack 2 = .ok (.iload_n 2, 1) := by decide +kernel
theorem dX6_slack_3 : decode cX6_slack 3 = .ok (.invokevirtual 156, 3) := by decide +kernel
theorem dX6_slack_6 : decode cX6_slack 6 = .ok (.ifCond .ne 5, 3) := by decide +kernel
theorem dX6_slack_9 : decode cX6_slack 9 = .ok (.iconst 0, 1) := by decide +kernel
theorem dX6_slack_10 : decode cX6_slack 10 = .ok (.ireturn, 1) := by decide +kernel
theorem dX6_slack_11 : decode cX6_slack 11 = .ok (.aload_n 0, 1) := by decide +kernel
theorem dX6_slack_12 : decode cX6_slack 12 = .ok (.invokevirtual 163, 3) := by decide +kernel
theorem dX6_slack_15 : decode cX6_slack 15 = .ok (.aload_n 0, 1) := by decide +kernel
theorem dX6_slack_16 : decode cX6_slack 16 = .ok (.getfield 62, 3) := by decide +kernel
theorem dX6_slack_19 : decode cX6_slack 19 = .ok (.iconst 4, 1) := by decide +kernel
theorem dX6_slack_20 : decode cX6_slack 20 = .ok (.iload_n 1, 1) := by decide +kernel
theorem dX6_slack_21 : decode cX6_slack 21 = .ok (.imul, 1) := by decide +kernel
theorem dX6_slack_22 : decode cX6_slack 22 = .ok (.iload_n 2, 1) := by decide +kernel
theorem dX6_slack_23 : decode cX6_slack 23 = .ok (.iadd, 1) := by decide +kernel
theorem dX6_slack_24 : decode cX6_slack 24 = .ok (.iaload, 1) := by decide +kernel
theorem dX6_slack_25 : decode cX6_slack 25 = .ok (.aload_n 0, 1) := by decide +kernel
theorem dX6_slack_26 : decode cX6_slack 26 = .ok (.getfield 59, 3) := by decide +kernel
theorem dX6_slack_29 : decode cX6_slack 29 = .ok (.iconst 4, 1) := by decide +kernel
theorem dX6_slack_30 : decode cX6_slack 30 = .ok (.iload_n 1, 1) := by decide +kernel
theorem dX6_slack_31 : decode cX6_slack 31 = .ok (.imul, 1) := by decide +kernel
theorem dX6_slack_32 : decode cX6_slack 32 = .ok (.iload_n 2, 1) := by decide +kernel
theorem dX6_slack_33 : decode cX6_slack 33 = .ok (.iadd, 1) := by decide +kernel
theorem dX6_slack_34 : decode cX6_slack 34 = .ok (.iaload, 1) := by decide +kernel
theorem dX6_slack_35 : decode cX6_slack 35 = .ok (.isub, 1) := by decide +kernel
theorem dX6_slack_36 : decode cX6_slack 36 = .ok (.ireturn, 1) := by decide +kernel
theorem dX6_walks_0 : decode cX6_walks 0 = .ok (.aload_n 0, 1) := by decide +kernel
theorem dX6_walks_1 : decode cX6_walks 1 = .ok (.invokevirtual 113, 3) := by decide +kernel
theorem dX6_walks_4 : decode cX6_walks 4 = .ok (.istore_n 1, 1) := by decide +kernel
theorem dX6_walks_5 : decode cX6_walks 5 = .ok (.iconst (-1), 1) := by decide +kernel
theorem dX6_walks_6 : decode cX6_walks 6 = .ok (.istore_n 2, 1) := by decide +kernel
theorem dX6_walks_7 : decode cX6_walks 7 = .ok (.bipush 31, 2) := by decide +kernel
theorem dX6_walks_9 : decode cX6_walks 9 = .ok (.istore_n 3, 1) := by decide +kernel
theorem dX6_walks_10 : decode cX6_walks 10 = .ok (.iload_n 3, 1) := by decide +kernel
theorem dX6_walks_11 : decode cX6_walks 11 = .ok (.ifCond .lt 33, 3) := by decide +kernel
theorem dX6_walks_14 : decode cX6_walks 14 = .ok (.aload_n 0, 1) := by decide +kernel
theorem dX6_walks_15 : decode cX6_walks 15 = .ok (.getfield 50, 3) := by decide +kernel
theorem dX6_walks_18 : decode cX6_walks 18 = .ok (.iload_n 3, 1) := by decide +kernel
theorem dX6_walks_19 : decode cX6_walks 19 = .ok (.baload, 1) := by decide +kernel
theorem dX6_walks_20 : decode cX6_walks 20 = .ok (.ifCond .eq 16, 3) := by decide +kernel
theorem dX6_walks_23 : decode cX6_walks 23 = .ok (.aload_n 0, 1) := by decide +kernel
theorem dX6_walks_24 : decode cX6_walks 24 = .ok (.iload_n 3, 1) := by decide +kernel
theorem dX6_walks_25 : decode cX6_walks 25 = .ok (.invokevirtual 92, 3) := by decide +kernel
theorem dX6_walks_28 : decode cX6_walks 28 = .ok (.iload_n 1, 1) := by decide +kernel
theorem dX6_walks_29 : decode cX6_walks 29 = .ok (.if_icmp .ne 7, 3) := by decide +kernel
theorem dX6_walks_32 : decode cX6_walks 32 = .ok (.iload_n 3, 1) := by decide +kernel
theorem dX6_walks_33 : decode cX6_walks 33 = .ok (.goto 4, 3) := by decide +kernel
theorem dX6_walks_36 : decode cX6_walks 36 = .ok (.iload_n 2, 1) := by decide +kernel
theorem dX6_walks_37 : decode cX6_walks 37 = .ok (.istore_n 2, 1) := by decide +kernel
theorem dX6_walks_38 : decode cX6_walks 38 = .ok (.iinc 3 (-1), 3) := by decide +kernel
theorem dX6_walks_41 : decode cX6_walks 41 = .ok (.goto (-31), 3) := by decide +kernel
theorem dX6_walks_44 : decode cX6_walks 44 = .ok (.aload_n 0, 1) := by decide +kernel
theorem dX6_walks_45 : decode cX6_walks 45 = .ok (.iconst 0, 1) := by decide +kernel
theorem dX6_walks_46 : decode cX6_walks 46 = .ok (.putfield 166, 3) := by decide +kernel
theorem dX6_walks_49 : decode cX6_walks 49 = .ok (.iload_n 2, 1) := by decide +kernel
theorem dX6_walks_50 : decode cX6_walks 50 = .ok (.iconst (-1), 1) := by decide +kernel
theorem dX6_walks_51 : decode cX6_walks 51 = .ok (.if_icmp .eq 134, 3) := by decide +kernel
theorem dX6_walks_54 : decode cX6_walks 54 = .ok (.aload_n 0, 1) := by decide +kernel
theorem dX6_walks_55 : decode cX6_walks 55 = .ok (.getfield 65, 3) := by decide +kernel
theorem dX6_walks_58 : decode cX6_walks 58 = .ok (.aload_n 0, 1) := by decide +kernel
theorem dX6_walks_59 : decode cX6_walks 59 = .ok (.getfield 166, 3) := by decide +kernel
theorem dX6_walks_62 : decode cX6_walks 62 = .ok (.iload_n 2, 1) := by decide +kernel
theorem dX6_walks_63 : decode cX6_walks 63 = .ok (.iastore, 1) := by decide +kernel
theorem dX6_walks_64 : decode cX6_walks 64 = .ok (.aload_n 0, 1) := by decide +kernel
theorem dX6_walks_65 : decode cX6_walks 65 = .ok (.dup, 1) := by decide +kernel
theorem dX6_walks_66 : decode cX6_walks 66 = .ok (.getfield 166, 3) := by decide +kernel
theorem dX6_walks_69 : decode cX6_walks 69 = .ok (.iconst 1, 1) := by decide +kernel
theorem dX6_walks_70 : decode cX6_walks 70 = .ok (.iadd, 1) := by decide +kernel
theorem dX6_walks_71 : decode cX6_walks 71 = .ok (.putfield 166, 3) := by decide +kernel
theorem dX6_walks_74 : decode cX6_walks 74 = .ok (.aload_n 0, 1) := by decide +kernel
theorem dX6_walks_75 : decode cX6_walks 75 = .ok (.iload_n 2, 1) := by decide +kernel
theorem dX6_walks_76 : decode cX6_walks 76 = .ok (.iconst (-1), 1) := by decide +kernel
theorem dX6_walks_77 : decode cX6_walks 77 = .ok (.invokevirtual 88, 3) := by decide +kernel
theorem dX6_walks_80 : decode cX6_walks 80 = .ok (.istore_n 3, 1) := by decide +kernel
theorem dX6_walks_81 : decode cX6_walks 81 = .ok (.aload_n 0, 1) := by decide +kernel
theorem dX6_walks_82 : decode cX6_walks 82 = .ok (.getfield 53, 3) := by decide +kernel
theorem dX6_walks_85 : decode cX6_walks 85 = .ok (.iload_n 2, 1) := by decide +kernel
theorem dX6_walks_86 : decode cX6_walks 86 = .ok (.iaload, 1) := by decide +kernel
theorem dX6_walks_87 : decode cX6_walks 87 = .ok (.istore 4, 2) := by decide +kernel
theorem dX6_walks_89 : decode cX6_walks 89 = .ok (.iload_n 3, 1) := by decide +kernel
theorem dX6_walks_90 : decode cX6_walks 90 = .ok (.iconst (-1), 1) := by decide +kernel
theorem dX6_walks_91 : decode cX6_walks 91 = .ok (.if_icmp .eq 21, 3) := by decide +kernel
theorem dX6_walks_94 : decode cX6_walks 94 = .ok (.aload_n 0, 1) := by decide +kernel
theorem dX6_walks_95 : decode cX6_walks 95 = .ok (.iload_n 3, 1) := by decide +kernel
theorem dX6_walks_96 : decode cX6_walks 96 = .ok (.invokevirtual 92, 3) := by decide +kernel
theorem dX6_walks_99 : decode cX6_walks 99 = .ok (.aload_n 0, 1) := by decide +kernel
theorem dX6_walks_100 : decode cX6_walks 100 = .ok (.getfield 59, 3) := by decide +kernel
theorem dX6_walks_103 : decode cX6_walks 103 = .ok (.iload_n 2, 1) := by decide +kernel
theorem dX6_walks_104 : decode cX6_walks 104 = .ok (.iaload, 1) := by decide +kernel
theorem dX6_walks_105 : decode cX6_walks 105 = .ok (.if_icmp .ne 7, 3) := by decide +kernel
theorem dX6_walks_108 : decode cX6_walks 108 = .ok (.iconst 1, 1) := by decide +kernel
theorem dX6_walks_109 : decode cX6_walks 109 = .ok (.goto 4, 3) := by decide +kernel
theorem dX6_walks_112 : decode cX6_walks 112 = .ok (.iconst 0, 1) := by decide +kernel
theorem dX6_walks_113 : decode cX6_walks 113 = .ok (.istore 5, 2) := by decide +kernel
theorem dX6_walks_115 : decode cX6_walks 115 = .ok (.iload 4, 2) := by decide +kernel
theorem dX6_walks_117 : decode cX6_walks 117 = .ok (.iconst (-1), 1) := by decide +kernel
theorem dX6_walks_118 : decode cX6_walks 118 = .ok (.if_icmp .eq 40, 3) := by decide +kernel
theorem dX6_walks_121 : decode cX6_walks 121 = .ok (.aload_n 0, 1) := by decide +kernel
theorem dX6_walks_122 : decode cX6_walks 122 = .ok (.iload 4, 2) := by decide +kernel
theorem dX6_walks_124 : decode cX6_walks 124 = .ok (.invokevirtual 92, 3) := by decide +kernel
theorem dX6_walks_127 : decode cX6_walks 127 = .ok (.aload_n 0, 1) := by decide +kernel
theorem dX6_walks_128 : decode cX6_walks 128 = .ok (.aload_n 0, 1) := by decide +kernel
theorem dX6_walks_129 : decode cX6_walks 129 = .ok (.getfield 41, 3) := by decide +kernel
theorem dX6_walks_132 : decode cX6_walks 132 = .ok (.iload 4, 2) := by decide +kernel
theorem dX6_walks_134 : decode cX6_walks 134 = .ok (.iaload, 1) := by decide +kernel
theorem dX6_walks_135 : decode cX6_walks 135 = .ok (.aload_n 0, 1) := by decide +kernel
theorem dX6_walks_136 : decode cX6_walks 136 = .ok (.getfield 41, 3) := by decide +kernel
theorem dX6_walks_139 : decode cX6_walks 139 = .ok (.iload_n 2, 1) := by decide +kernel
theorem dX6_walks_140 : decode cX6_walks 140 = .ok (.iaload, 1) := by decide +kernel
theorem dX6_walks_141 : decode cX6_walks 141 = .ok (.invokevirtual 96, 3) := by decide +kernel
theorem dX6_walks_144 : decode cX6_walks 144 = .ok (.iadd, 1) := by decide +kernel
theorem dX6_walks_145 : decode cX6_walks 145 = .ok (.aload_n 0, 1) := by decide +kernel
theorem dX6_walks_146 : decode cX6_walks 146 = .ok (.getfield 59, 3) := by decide +kernel
theorem dX6_walks_149 : decode cX6_walks 149 = .ok (.iload_n 2, 1) := by decide +kernel
theorem dX6_walks_150 : decode cX6_walks 150 = .ok (.iaload, 1) := by decide +kernel
theorem dX6_walks_151 : decode cX6_walks 151 = .ok (.if_icmp .ne 7, 3) := by decide +kernel
theorem dX6_walks_154 : decode cX6_walks 154 = .ok (.iconst 1, 1) := by decide +kernel
theorem dX6_walks_155 : decode cX6_walks 155 = .ok (.goto 4, 3) := by decide +kernel
theorem dX6_walks_158 : decode cX6_walks 158 = .ok (.iconst 0, 1) := by decide +kernel
theorem dX6_walks_159 : decode cX6_walks 159 = .ok (.istore 6, 2) := by decide +kernel
theorem dX6_walks_161 : decode cX6_walks 161 = .ok (.iload 5, 2) := by decide +kernel
theorem dX6_walks_163 : decode cX6_walks 163 = .ok (.ifCond .eq 7, 3) := by decide +kernel
theorem dX6_walks_166 : decode cX6_walks 166 = .ok (.iload_n 3, 1) := by decide +kernel
theorem dX6_walks_167 : decode cX6_walks 167 = .ok (.goto 14, 3) := by decide +kernel
theorem dX6_walks_170 : decode cX6_walks 170 = .ok (.iload 6, 2) := by decide +kernel
theorem dX6_walks_172 : decode cX6_walks 172 = .ok (.ifCond .eq 8, 3) := by decide +kernel
theorem dX6_walks_175 : decode cX6_walks 175 = .ok (.iload 4, 2) := by decide +kernel
theorem dX6_walks_177 : decode cX6_walks 177 = .ok (.goto 4, 3) := by decide +kernel
theorem dX6_walks_180 : decode cX6_walks 180 = .ok (.iconst (-1), 1) := by decide +kernel
theorem dX6_walks_181 : decode cX6_walks 181 = .ok (.istore_n 2, 1) := by decide +kernel
theorem dX6_walks_182 : decode cX6_walks 182 = .ok (.goto (-133), 3) := by decide +kernel
theorem dX6_walks_185 : decode cX6_walks 185 = .ok (.return_, 1) := by decide +kernel
theorem dX6_criticals_0 : decode cX6_criticals 0 = .ok (.aload_n 0, 1) := by decide +kernel
theorem dX6_criticals_1 : decode cX6_criticals 1 = .ok (.iconst 0, 1) := by decide +kernel
theorem dX6_criticals_2 : decode cX6_criticals 2 = .ok (.putfield 74, 3) := by decide +kernel
theorem dX6_criticals_5 : decode cX6_criticals 5 = .ok (.aload_n 0, 1) := by decide +kernel
theorem dX6_criticals_6 : decode cX6_criticals 6 = .ok (.invokevirtual 169, 3) := by decide +kernel
theorem dX6_criticals_9 : decode cX6_criticals 9 = .ok (.aload_n 0, 1) := by decide +kernel
theorem dX6_criticals_10 : decode cX6_criticals 10 = .ok (.getfield 166, 3) := by decide +kernel
theorem dX6_criticals_13 : decode cX6_criticals 13 = .ok (.ireturn, 1) := by decide +kernel
theorem dX6_criticalAt_0 : decode cX6_criticalAt 0 = .ok (.aload_n 0, 1) := by decide +kernel
theorem dX6_criticalAt_1 : decode cX6_criticalAt 1 = .ok (.invokevirtual 169, 3) := by decide +kernel
theorem dX6_criticalAt_4 : decode cX6_criticalAt 4 = .ok (.aload_n 0, 1) := by decide +kernel
theorem dX6_criticalAt_5 : decode cX6_criticalAt 5 = .ok (.iload_n 1, 1) := by decide +kernel
theorem dX6_criticalAt_6 : decode cX6_criticalAt 6 = .ok (.iconst 0, 1) := by decide +kernel
theorem dX6_criticalAt_7 : decode cX6_criticalAt 7 = .ok (.aload_n 0, 1) := by decide +kernel
theorem dX6_criticalAt_8 : decode cX6_criticalAt 8 = .ok (.getfield 166, 3) := by decide +kernel
theorem dX6_criticalAt_11 : decode cX6_criticalAt 11 = .ok (.iconst 1, 1) := by decide +kernel
theorem dX6_criticalAt_12 : decode cX6_criticalAt 12 = .ok (.isub, 1) := by decide +kernel
theorem dX6_criticalAt_13 : decode cX6_criticalAt 13 = .ok (.invokestatic 81, 3) := by decide +kernel
theorem dX6_criticalAt_16 : decode cX6_criticalAt 16 = .ok (.ifCond .eq 7, 3) := by decide +kernel
theorem dX6_criticalAt_19 : decode cX6_criticalAt 19 = .ok (.iconst 0, 1) := by decide +kernel
theorem dX6_criticalAt_20 : decode cX6_criticalAt 20 = .ok (.goto 4, 3) := by decide +kernel
theorem dX6_criticalAt_23 : decode cX6_criticalAt 23 = .ok (.iconst 1, 1) := by decide +kernel
theorem dX6_criticalAt_24 : decode cX6_criticalAt 24 = .ok (.putfield 74, 3) := by decide +kernel
theorem dX6_criticalAt_27 : decode cX6_criticalAt 27 = .ok (.aload_n 0, 1) := by decide +kernel
theorem dX6_criticalAt_28 : decode cX6_criticalAt 28 = .ok (.getfield 74, 3) := by decide +kernel
theorem dX6_criticalAt_31 : decode cX6_criticalAt 31 = .ok (.ifCond .le 7, 3) := by decide +kernel
theorem dX6_criticalAt_34 : decode cX6_criticalAt 34 = .ok (.iconst 0, 1) := by decide +kernel
theorem dX6_criticalAt_35 : decode cX6_criticalAt 35 = .ok (.goto 19, 3) := by decide +kernel
theorem dX6_criticalAt_38 : decode cX6_criticalAt 38 = .ok (.aload_n 0, 1) := by decide +kernel
theorem dX6_criticalAt_39 : decode cX6_criticalAt 39 = .ok (.getfield 65, 3) := by decide +kernel
theorem dX6_criticalAt_42 : decode cX6_criticalAt 42 = .ok (.aload_n 0, 1) := by decide +kernel
theorem dX6_criticalAt_43 : decode cX6_criticalAt 43 = .ok (.getfield 166, 3) := by decide +kernel
theorem dX6_criticalAt_46 : decode cX6_criticalAt 46 = .ok (.iconst 1, 1) := by decide +kernel
theorem dX6_criticalAt_47 : decode cX6_criticalAt 47 = .ok (.isub, 1) := by decide +kernel
theorem dX6_criticalAt_48 : decode cX6_criticalAt 48 = .ok (.iload_n 1, 1) := by decide +kernel
theorem dX6_criticalAt_49 : decode cX6_criticalAt 49 = .ok (.isub, 1) := by decide +kernel
theorem dX6_criticalAt_50 : decode cX6_criticalAt 50 = .ok (.iaload, 1) := by decide +kernel
theorem dX6_criticalAt_51 : decode cX6_criticalAt 51 = .ok (.invokestatic 153, 3) := by decide +kernel
theorem dX6_criticalAt_54 : decode cX6_criticalAt 54 = .ok (.ireturn, 1) := by decide +kernel
theorem dX6_setups_0 : decode cX6_setups 0 = .ok (.aload_n 0, 1) := by decide +kernel
theorem dX6_setups_1 : decode cX6_setups 1 = .ok (.aload_n 0, 1) := by decide +kernel
theorem dX6_setups_2 : decode cX6_setups 2 = .ok (.iload_n 1, 1) := by decide +kernel
theorem dX6_setups_3 : decode cX6_setups 3 = .ok (.invokevirtual 120, 3) := by decide +kernel
theorem dX6_setups_6 : decode cX6_setups 6 = .ok (.ifCond .eq 7, 3) := by decide +kernel
theorem dX6_setups_9 : decode cX6_setups 9 = .ok (.iconst 0, 1) := by decide +kernel
theorem dX6_setups_10 : decode cX6_setups 10 = .ok (.goto 4, 3) := by decide +kernel
theorem dX6_setups_13 : decode cX6_setups 13 = .ok (.iconst 1, 1) := by decide +kernel
theorem dX6_setups_14 : decode cX6_setups 14 = .ok (.putfield 74, 3) := by decide +kernel
theorem dX6_setups_17 : decode cX6_setups 17 = .ok (.iconst 0, 1) := by decide +kernel
theorem dX6_setups_18 : decode cX6_setups 18 = .ok (.istore_n 2, 1) := by decide +kernel
theorem dX6_setups_19 : decode cX6_setups 19 = .ok (.iconst 0, 1) := by decide +kernel
theorem dX6_setups_20 : decode cX6_setups 20 = .ok (.istore_n 3, 1) := by decide +kernel
theorem dX6_setups_21 : decode cX6_setups 21 = .ok (.iconst 0, 1) := by decide +kernel
theorem dX6_setups_22 : decode cX6_setups 22 = .ok (.istore 4, 2) := by decide +kernel
theorem dX6_setups_24 : decode cX6_setups 24 = .ok (.aload_n 0, 1) := by decide +kernel
theorem dX6_setups_25 : decode cX6_setups 25 = .ok (.getfield 74, 3) := by decide +kernel
theorem dX6_setups_28 : decode cX6_setups 28 = .ok (.ifCond .ne 52, 3) := by decide +kernel
theorem dX6_setups_31 : decode cX6_setups 31 = .ok (.iload 4, 2) := by decide +kernel
theorem dX6_setups_33 : decode cX6_setups 33 = .ok (.aload_n 0, 1) := by decide +kernel
theorem dX6_setups_34 : decode cX6_setups 34 = .ok (.getfield 19, 3) := by decide +kernel
theorem dX6_setups_37 : decode cX6_setups 37 = .ok (.iload_n 1, 1) := by decide +kernel
theorem dX6_setups_38 : decode cX6_setups 38 = .ok (.iaload, 1) := by decide +kernel
theorem dX6_setups_39 : decode cX6_setups 39 = .ok (.if_icmp .ge 41, 3) := by decide +kernel
theorem dX6_setups_42 : decode cX6_setups 42 = .ok (.aload_n 0, 1) := by decide +kernel
theorem dX6_setups_43 : decode cX6_setups 43 = .ok (.getfield 41, 3) := by decide +kernel
theorem dX6_setups_46 : decode cX6_setups 46 = .ok (.aload_n 0, 1) := by decide +kernel
theorem dX6_setups_47 : decode cX6_setups 47 = .ok (.getfield 22, 3) := by decide +kernel
theorem dX6_setups_50 : decode cX6_setups 50 = .ok (.bipush 32, 2) := by decide +kernel
theorem dX6_setups_52 : decode cX6_setups 52 = .ok (.iload_n 1, 1) := by decide +kernel
theorem dX6_setups_53 : decode cX6_setups 53 = .ok (.imul, 1) := by decide +kernel
theorem dX6_setups_54 : decode cX6_setups 54 = .ok (.iload 4, 2) := by decide +kernel
theorem dX6_setups_56 : decode cX6_setups 56 = .ok (.iadd, 1) := by decide +kernel
theorem dX6_setups_57 : decode cX6_setups 57 = .ok (.iaload, 1) := by decide +kernel
theorem dX6_setups_58 : decode cX6_setups 58 = .ok (.iaload, 1) := by decide +kernel
theorem dX6_setups_59 : decode cX6_setups 59 = .ok (.istore 5, 2) := by decide +kernel
theorem dX6_setups_61 : decode cX6_setups 61 = .ok (.iload_n 2, 1) := by decide +kernel
theorem dX6_setups_62 : decode cX6_setups 62 = .ok (.aload_n 0, 1) := by decide +kernel
theorem dX6_setups_63 : decode cX6_setups 63 = .ok (.iload_n 3, 1) := by decide +kernel
theorem dX6_setups_64 : decode cX6_setups 64 = .ok (.iload 5, 2) := by decide +kernel
theorem dX6_setups_66 : decode cX6_setups 66 = .ok (.invokevirtual 96, 3) := by decide +kernel
theorem dX6_setups_69 : decode cX6_setups 69 = .ok (.iadd, 1) := by decide +kernel
theorem dX6_setups_70 : decode cX6_setups 70 = .ok (.istore_n 2, 1) := by decide +kernel
theorem dX6_setups_71 : decode cX6_setups 71 = .ok (.iload 5, 2) := by decide +kernel
theorem dX6_setups_73 : decode cX6_setups 73 = .ok (.istore_n 3, 1) := by decide +kernel
theorem dX6_setups_74 : decode cX6_setups 74 = .ok (.iinc 4 1, 3) := by decide +kernel
theorem dX6_setups_77 : decode cX6_setups 77 = .ok (.goto (-53), 3) := by decide +kernel
theorem dX6_setups_80 : decode cX6_setups 80 = .ok (.iload_n 2, 1) := by decide +kernel
theorem dX6_setups_81 : decode cX6_setups 81 = .ok (.ireturn, 1) := by decide +kernel
theorem dX6_needs_0 : decode cX6_needs 0 = .ok (.iconst 0, 1) := by decide +kernel
theorem dX6_needs_1 : decode cX6_needs 1 = .ok (.istore_n 3, 1) := by decide +kernel
theorem dX6_needs_2 : decode cX6_needs 2 = .ok (.iload_n 3, 1) := by decide +kernel
theorem dX6_needs_3 : decode cX6_needs 3 = .ok (.sipush 256, 3) := by decide +kernel
theorem dX6_needs_6 : decode cX6_needs 6 = .ok (.if_icmp .ge 17, 3) := by decide +kernel
theorem dX6_needs_9 : decode cX6_needs 9 = .ok (.aload_n 0, 1) := by decide +kernel
theorem dX6_needs_10 : decode cX6_needs 10 = .ok (.getfield 71, 3) := by decide +kernel
theorem dX6_needs_13 : decode cX6_needs 13 = .ok (.iload_n 3, 1) := by decide +kernel
theorem dX6_needs_14 : decode cX6_needs 14 = .ok (.ldc 116, 2) := by decide +kernel
theorem dX6_needs_16 : decode cX6_needs 16 = .ok (.iastore, 1) := by decide +kernel
theorem dX6_needs_17 : decode cX6_needs 17 = .ok (.iinc 3 1, 3) := by decide +kernel
theorem dX6_needs_20 : decode cX6_needs 20 = .ok (.goto (-18), 3) := by decide +kernel
theorem dX6_needs_23 : decode cX6_needs 23 = .ok (.iconst 0, 1) := by decide +kernel
theorem dX6_needs_24 : decode cX6_needs 24 = .ok (.istore_n 3, 1) := by decide +kernel
theorem dX6_needs_25 : decode cX6_needs 25 = .ok (.iload_n 3, 1) := by decide +kernel
theorem dX6_needs_26 : decode cX6_needs 26 = .ok (.sipush 256, 3) := by decide +kernel
theorem dX6_needs_29 : decode cX6_needs 29 = .ok (.if_icmp .ge 129, 3) := by decide +kernel
theorem dX6_needs_32 : decode cX6_needs 32 = .ok (.iload_n 3, 1) := by decide +kernel
theorem dX6_needs_33 : decode cX6_needs 33 = .ok (.iload_n 1, 1) := by decide +kernel
theorem dX6_needs_34 : decode cX6_needs 34 = .ok (.ior, 1) := by decide +kernel
theorem dX6_needs_35 : decode cX6_needs 35 = .ok (.istore 4, 2) := by decide +kernel
theorem dX6_needs_37 : decode cX6_needs 37 = .ok (.aload_n 0, 1) := by decide +kernel
theorem dX6_needs_38 : decode cX6_needs 38 = .ok (.getfield 68, 3) := by decide +kernel
theorem dX6_needs_41 : decode cX6_needs 41 = .ok (.iload_n 3, 1) := by decide +kernel
theorem dX6_needs_42 : decode cX6_needs 42 = .ok (.iaload, 1) := by decide +kernel
theorem dX6_needs_43 : decode cX6_needs 43 = .ok (.iload_n 1, 1) := by decide +kernel
theorem dX6_needs_44 : decode cX6_needs 44 = .ok (.iload_n 3, 1) := by decide +kernel
theorem dX6_needs_45 : decode cX6_needs 45 = .ok (.iconst (-1), 1) := by decide +kernel
theorem dX6_needs_46 : decode cX6_needs 46 = .ok (.ixor, 1) := by decide +kernel
theorem dX6_needs_47 : decode cX6_needs 47 = .ok (.iand, 1) := by decide +kernel
theorem dX6_needs_48 : decode cX6_needs 48 = .ok (.invokestatic 124, 3) := by decide +kernel
theorem dX6_needs_51 : decode cX6_needs 51 = .ok (.iadd, 1) := by decide +kernel
theorem dX6_needs_52 : decode cX6_needs 52 = .ok (.istore 5, 2) := by decide +kernel
theorem dX6_needs_54 : decode cX6_needs 54 = .ok (.iload_n 1, 1) := by decide +kernel
theorem dX6_needs_55 : decode cX6_needs 55 = .ok (.istore 6, 2) := by decide +kernel
theorem dX6_needs_57 : decode cX6_needs 57 = .ok (.iload 6, 2) := by decide +kernel
theorem dX6_needs_59 : decode cX6_needs 59 = .ok (.sipush 256, 3) := by decide +kernel
theorem dX6_needs_62 : decode cX6_needs 62 = .ok (.if_icmp .ge 90, 3) := by decide +kernel
theorem dX6_needs_65 : decode cX6_needs 65 = .ok (.aload_n 0, 1) := by decide +kernel
theorem dX6_needs_66 : decode cX6_needs 66 = .ok (.getfield 68, 3) := by decide +kernel
theorem dX6_needs_69 : decode cX6_needs 69 = .ok (.iload_n 3, 1) := by decide +kernel
theorem dX6_needs_70 : decode cX6_needs 70 = .ok (.iaload, 1) := by decide +kernel
theorem dX6_needs_71 : decode cX6_needs 71 = .ok (.ldc 116, 2) := by decide +kernel
theorem dX6_needs_73 : decode cX6_needs 73 = .ok (.if_icmp .ge 79, 3) := by decide +kernel
theorem dX6_needs_76 : decode cX6_needs 76 = .ok (.iload 6, 2) := by decide +kernel
theorem dX6_needs_78 : decode cX6_needs 78 = .ok (.iload_n 1, 1) := by decide +kernel
theorem dX6_needs_79 : decode cX6_needs 79 = .ok (.iand, 1) := by decide +kernel
theorem dX6_needs_80 : decode cX6_needs 80 = .ok (.iload_n 1, 1) := by decide +kernel
theorem dX6_needs_81 : decode cX6_needs 81 = .ok (.if_icmp .ne 26, 3) := by decide +kernel
theorem dX6_needs_84 : decode cX6_needs 84 = .ok (.iload 6, 2) := by decide +kernel
theorem dX6_needs_86 : decode cX6_needs 86 = .ok (.iload 4, 2) := by decide +kernel
theorem dX6_needs_88 : decode cX6_needs 88 = .ok (.ior, 1) := by decide +kernel
theorem dX6_needs_89 : decode cX6_needs 89 = .ok (.iload 4, 2) := by decide +kernel
theorem dX6_needs_91 : decode cX6_needs 91 = .ok (.if_icmp .ne 16, 3) := by decide +kernel
theorem dX6_needs_94 : decode cX6_needs 94 = .ok (.iload 6, 2) := by decide +kernel
theorem dX6_needs_96 : decode cX6_needs 96 = .ok (.invokestatic 124, 3) := by decide +kernel
theorem dX6_needs_99 : decode cX6_needs 99 = .ok (.iload_n 2, 1) := by decide +kernel
theorem dX6_needs_100 : decode cX6_needs 100 = .ok (.if_icmp .gt 7, 3) := by decide +kernel
theorem dX6_needs_103 : decode cX6_needs 103 = .ok (.iconst 1, 1) := by decide +kernel
theorem dX6_needs_104 : decode cX6_needs 104 = .ok (.goto 4, 3) := by decide +kernel
theorem dX6_needs_107 : decode cX6_needs 107 = .ok (.iconst 0, 1) := by decide +kernel
theorem dX6_needs_108 : decode cX6_needs 108 = .ok (.istore 7, 2) := by decide +kernel
theorem dX6_needs_110 : decode cX6_needs 110 = .ok (.aload_n 0, 1) := by decide +kernel
theorem dX6_needs_111 : decode cX6_needs 111 = .ok (.getfield 71, 3) := by decide +kernel
theorem dX6_needs_114 : decode cX6_needs 114 = .ok (.iload 6, 2) := by decide +kernel
theorem dX6_needs_116 : decode cX6_needs 116 = .ok (.iload 7, 2) := by decide +kernel
theorem dX6_needs_118 : decode cX6_needs 118 = .ok (.ifCond .eq 20, 3) := by decide +kernel
theorem dX6_needs_121 : decode cX6_needs 121 = .ok (.iload 5, 2) := by decide +kernel
theorem dX6_needs_123 : decode cX6_needs 123 = .ok (.aload_n 0, 1) := by decide +kernel
theorem dX6_needs_124 : decode cX6_needs 124 = .ok (.getfield 71, 3) := by decide +kernel
theorem dX6_needs_127 : decode cX6_needs 127 = .ok (.iload 6, 2) := by decide +kernel
theorem dX6_needs_129 : decode cX6_needs 129 = .ok (.iaload, 1) := by decide +kernel
theorem dX6_needs_130 : decode cX6_needs 130 = .ok (.if_icmp .ge 8, 3) := by decide +kernel
theorem dX6_needs_133 : decode cX6_needs 133 = .ok (.iload 5, 2) := by decide +kernel
theorem dX6_needs_135 : decode cX6_needs 135 = .ok (.goto 10, 3) := by decide +kernel
theorem dX6_needs_138 : decode cX6_needs 138 = .ok (.aload_n 0, 1) := by decide +kernel
theorem dX6_needs_139 : decode cX6_needs 139 = .ok (.getfield 71, 3) := by decide +kernel
theorem dX6_needs_142 : decode cX6_needs 142 = .ok (.iload 6, 2) := by decide +kernel
theorem dX6_needs_144 : decode cX6_needs 144 = .ok (.iaload, 1) := by decide +kernel
theorem dX6_needs_145 : decode cX6_needs 145 = .ok (.iastore, 1) := by decide +kernel
theorem dX6_needs_146 : decode cX6_needs 146 = .ok (.iinc 6 1, 3) := by decide +kernel
theorem dX6_needs_149 : decode cX6_needs 149 = .ok (.goto (-92), 3) := by decide +kernel
theorem dX6_needs_152 : decode cX6_needs 152 = .ok (.iinc 3 1, 3) := by decide +kernel
theorem dX6_needs_155 : decode cX6_needs 155 = .ok (.goto (-130), 3) := by decide +kernel
theorem dX6_needs_158 : decode cX6_needs 158 = .ok (.iconst 0, 1) := by decide +kernel
theorem dX6_needs_159 : decode cX6_needs 159 = .ok (.istore_n 3, 1) := by decide +kernel
theorem dX6_needs_160 : decode cX6_needs 160 = .ok (.iload_n 3, 1) := by decide +kernel
theorem dX6_needs_161 : decode cX6_needs 161 = .ok (.sipush 256, 3) := by decide +kernel
theorem dX6_needs_164 : decode cX6_needs 164 = .ok (.if_icmp .ge 21, 3) := by decide +kernel
theorem dX6_needs_167 : decode cX6_needs 167 = .ok (.aload_n 0, 1) := by decide +kernel
theorem dX6_needs_168 : decode cX6_needs 168 = .ok (.getfield 68, 3) := by decide +kernel
theorem dX6_needs_171 : decode cX6_needs 171 = .ok (.iload_n 3, 1) := by decide +kernel
theorem dX6_needs_172 : decode cX6_needs 172 = .ok (.aload_n 0, 1) := by decide +kernel
theorem dX6_needs_173 : decode cX6_needs 173 = .ok (.getfield 71, 3) := by decide +kernel
theorem dX6_needs_176 : decode cX6_needs 176 = .ok (.iload_n 3, 1) := by decide +kernel
theorem dX6_needs_177 : decode cX6_needs 177 = .ok (.iaload, 1) := by decide +kernel
theorem dX6_needs_178 : decode cX6_needs 178 = .ok (.iastore, 1) := by decide +kernel
theorem dX6_needs_179 : decode cX6_needs 179 = .ok (.iinc 3 1, 3) := by decide +kernel
theorem dX6_needs_182 : decode cX6_needs 182 = .ok (.goto (-22), 3) := by decide +kernel
theorem dX6_needs_185 : decode cX6_needs 185 = .ok (.return_, 1) := by decide +kernel
theorem dX6_loads_0 : decode cX6_loads 0 = .ok (.aload_n 0, 1) := by decide +kernel
theorem dX6_loads_1 : decode cX6_loads 1 = .ok (.aload_n 0, 1) := by decide +kernel
theorem dX6_loads_2 : decode cX6_loads 2 = .ok (.iload_n 1, 1) := by decide +kernel
theorem dX6_loads_3 : decode cX6_loads 3 = .ok (.invokevirtual 120, 3) := by decide +kernel
theorem dX6_loads_6 : decode cX6_loads 6 = .ok (.ifCond .eq 7, 3) := by decide +kernel
theorem dX6_loads_9 : decode cX6_loads 9 = .ok (.iconst 0, 1) := by decide +kernel
theorem dX6_loads_10 : decode cX6_loads 10 = .ok (.goto 4, 3) := by decide +kernel
theorem dX6_loads_13 : decode cX6_loads 13 = .ok (.iconst 1, 1) := by decide +kernel
theorem dX6_loads_14 : decode cX6_loads 14 = .ok (.putfield 74, 3) := by decide +kernel
theorem dX6_loads_17 : decode cX6_loads 17 = .ok (.aload_n 0, 1) := by decide +kernel
theorem dX6_loads_18 : decode cX6_loads 18 = .ok (.getfield 74, 3) := by decide +kernel
theorem dX6_loads_21 : decode cX6_loads 21 = .ok (.ifCond .le 5, 3) := by decide +kernel
theorem dX6_loads_24 : decode cX6_loads 24 = .ok (.iconst 0, 1) := by decide +kernel
theorem dX6_loads_25 : decode cX6_loads 25 = .ok (.ireturn, 1) := by decide +kernel
theorem dX6_loads_26 : decode cX6_loads 26 = .ok (.iconst 0, 1) := by decide +kernel
theorem dX6_loads_27 : decode cX6_loads 27 = .ok (.istore_n 2, 1) := by decide +kernel
theorem dX6_loads_28 : decode cX6_loads 28 = .ok (.iload_n 2, 1) := by decide +kernel
theorem dX6_loads_29 : decode cX6_loads 29 = .ok (.sipush 256, 3) := by decide +kernel
theorem dX6_loads_32 : decode cX6_loads 32 = .ok (.if_icmp .ge 25, 3) := by decide +kernel
theorem dX6_loads_35 : decode cX6_loads 35 = .ok (.aload_n 0, 1) := by decide +kernel
theorem dX6_loads_36 : decode cX6_loads 36 = .ok (.getfield 68, 3) := by decide +kernel
theorem dX6_loads_39 : decode cX6_loads 39 = .ok (.iload_n 2, 1) := by decide +kernel
theorem dX6_loads_40 : decode cX6_loads 40 = .ok (.iload_n 2, 1) := by decide +kernel
theorem dX6_loads_41 : decode cX6_loads 41 = .ok (.ifCond .ne 7, 3) := by decide +kernel
theorem dX6_loads_44 : decode cX6_loads 44 = .ok (.iconst 0, 1) := by decide +kernel
theorem dX6_loads_45 : decode cX6_loads 45 = .ok (.goto 5, 3) := by decide +kernel
theorem dX6_loads_48 : decode cX6_loads 48 = .ok (.ldc 116, 2) := by decide +kernel
theorem dX6_loads_50 : decode cX6_loads 50 = .ok (.iastore, 1) := by decide +kernel
theorem dX6_loads_51 : decode cX6_loads 51 = .ok (.iinc 2 1, 3) := by decide +kernel
theorem dX6_loads_54 : decode cX6_loads 54 = .ok (.goto (-26), 3) := by decide +kernel
theorem dX6_loads_57 : decode cX6_loads 57 = .ok (.iconst 0, 1) := by decide +kernel
theorem dX6_loads_58 : decode cX6_loads 58 = .ok (.istore_n 2, 1) := by decide +kernel
theorem dX6_loads_59 : decode cX6_loads 59 = .ok (.iload_n 2, 1) := by decide +kernel
theorem dX6_loads_60 : decode cX6_loads 60 = .ok (.aload_n 0, 1) := by decide +kernel
theorem dX6_loads_61 : decode cX6_loads 61 = .ok (.getfield 19, 3) := by decide +kernel
theorem dX6_loads_64 : decode cX6_loads 64 = .ok (.iload_n 1, 1) := by decide +kernel
theorem dX6_loads_65 : decode cX6_loads 65 = .ok (.iaload, 1) := by decide +kernel
theorem dX6_loads_66 : decode cX6_loads 66 = .ok (.if_icmp .ge 35, 3) := by decide +kernel
theorem dX6_loads_69 : decode cX6_loads 69 = .ok (.aload_n 0, 1) := by decide +kernel
theorem dX6_loads_70 : decode cX6_loads 70 = .ok (.aload_n 0, 1) := by decide +kernel
theorem dX6_loads_71 : decode cX6_loads 71 = .ok (.getfield 44, 3) := by decide +kernel
theorem dX6_loads_74 : decode cX6_loads 74 = .ok (.aload_n 0, 1) := by decide +kernel
theorem dX6_loads_75 : decode cX6_loads 75 = .ok (.getfield 22, 3) := by decide +kernel
theorem dX6_loads_78 : decode cX6_loads 78 = .ok (.bipush 32, 2) := by decide +kernel
theorem dX6_loads_80 : decode cX6_loads 80 = .ok (.iload_n 1, 1) := by decide +kernel
theorem dX6_loads_81 : decode cX6_loads 81 = .ok (.imul, 1) := by decide +kernel
theorem dX6_loads_82 : decode cX6_loads 82 = .ok (.iload_n 2, 1) := by decide +kernel
theorem dX6_loads_83 : decode cX6_loads 83 = .ok (.iadd, 1) := by decide +kernel
theorem dX6_loads_84 : decode cX6_loads 84 = .ok (.iaload, 1) := by decide +kernel
theorem dX6_loads_85 : decode cX6_loads 85 = .ok (.iaload, 1) := by decide +kernel
theorem dX6_loads_86 : decode cX6_loads 86 = .ok (.aload_n 0, 1) := by decide +kernel
theorem dX6_loads_87 : decode cX6_loads 87 = .ok (.getfield 7, 3) := by decide +kernel
theorem dX6_loads_90 : decode cX6_loads 90 = .ok (.iload_n 1, 1) := by decide +kernel
theorem dX6_loads_91 : decode cX6_loads 91 = .ok (.iaload, 1) := by decide +kernel
theorem dX6_loads_92 : decode cX6_loads 92 = .ok (.invokevirtual 172, 3) := by decide +kernel
theorem dX6_loads_95 : decode cX6_loads 95 = .ok (.iinc 2 1, 3) := by decide +kernel
theorem dX6_loads_98 : decode cX6_loads 98 = .ok (.goto (-39), 3) := by decide +kernel
theorem dX6_loads_101 : decode cX6_loads 101 = .ok (.ldc 116, 2) := by decide +kernel
theorem dX6_loads_103 : decode cX6_loads 103 = .ok (.istore_n 2, 1) := by decide +kernel
theorem dX6_loads_104 : decode cX6_loads 104 = .ok (.iconst 0, 1) := by decide +kernel
theorem dX6_loads_105 : decode cX6_loads 105 = .ok (.istore_n 3, 1) := by decide +kernel
theorem dX6_loads_106 : decode cX6_loads 106 = .ok (.iload_n 3, 1) := by decide +kernel
theorem dX6_loads_107 : decode cX6_loads 107 = .ok (.sipush 256, 3) := by decide +kernel
theorem dX6_loads_110 : decode cX6_loads 110 = .ok (.if_icmp .ge 30, 3) := by decide +kernel
theorem dX6_loads_113 : decode cX6_loads 113 = .ok (.aload_n 0, 1) := by decide +kernel
theorem dX6_loads_114 : decode cX6_loads 114 = .ok (.getfield 68, 3) := by decide +kernel
theorem dX6_loads_117 : decode cX6_loads 117 = .ok (.iload_n 3, 1) := by decide +kernel
theorem dX6_loads_118 : decode cX6_loads 118 = .ok (.iaload, 1) := by decide +kernel
theorem dX6_loads_119 : decode cX6_loads 119 = .ok (.iload_n 2, 1) := by decide +kernel
theorem dX6_loads_120 : decode cX6_loads 120 = .ok (.if_icmp .ge 12, 3) := by decide +kernel
theorem dX6_loads_123 : decode cX6_loads 123 = .ok (.aload_n 0, 1) := by decide +kernel
theorem dX6_loads_124 : decode cX6_loads 124 = .ok (.getfield 68, 3) := by decide +kernel
theorem dX6_loads_127 : decode cX6_loads 127 = .ok (.iload_n 3, 1) := by decide +kernel
theorem dX6_loads_128 : decode cX6_loads 128 = .ok (.iaload, 1) := by decide +kernel
theorem dX6_loads_129 : decode cX6_loads 129 = .ok (.goto 4, 3) := by decide +kernel
theorem dX6_loads_132 : decode cX6_loads 132 = .ok (.iload_n 2, 1) := by decide +kernel
theorem dX6_loads_133 : decode cX6_loads 133 = .ok (.istore_n 2, 1) := by decide +kernel
theorem dX6_loads_134 : decode cX6_loads 134 = .ok (.iinc 3 1, 3) := by decide +kernel
theorem dX6_loads_137 : decode cX6_loads 137 = .ok (.goto (-31), 3) := by decide +kernel
theorem dX6_loads_140 : decode cX6_loads 140 = .ok (.iload_n 2, 1) := by decide +kernel
theorem dX6_loads_141 : decode cX6_loads 141 = .ok (.ireturn, 1) := by decide +kernel
theorem dJ6_bitCount_0f7a4_0 : decode cJ6_bitCount_0f7a4 0 = .ok (.iload_n 0, 1) := by decide +kernel
theorem dJ6_bitCount_0f7a4_1 : decode cJ6_bitCount_0f7a4 1 = .ok (.iload_n 0, 1) := by decide +kernel
theorem dJ6_bitCount_0f7a4_2 : decode cJ6_bitCount_0f7a4 2 = .ok (.iconst 1, 1) := by decide +kernel
theorem dJ6_bitCount_0f7a4_3 : decode cJ6_bitCount_0f7a4 3 = .ok (.iushr, 1) := by decide +kernel
theorem dJ6_bitCount_0f7a4_4 : decode cJ6_bitCount_0f7a4 4 = .ok (.ldc_w 265, 3) := by decide +kernel
theorem dJ6_bitCount_0f7a4_7 : decode cJ6_bitCount_0f7a4 7 = .ok (.iand, 1) := by decide +kernel
theorem dJ6_bitCount_0f7a4_8 : decode cJ6_bitCount_0f7a4 8 = .ok (.isub, 1) := by decide +kernel
theorem dJ6_bitCount_0f7a4_9 : decode cJ6_bitCount_0f7a4 9 = .ok (.istore_n 0, 1) := by decide +kernel
theorem dJ6_bitCount_0f7a4_10 : decode cJ6_bitCount_0f7a4 10 = .ok (.iload_n 0, 1) := by decide +kernel
theorem dJ6_bitCount_0f7a4_11 : decode cJ6_bitCount_0f7a4 11 = .ok (.ldc_w 266, 3) := by decide +kernel
theorem dJ6_bitCount_0f7a4_14 : decode cJ6_bitCount_0f7a4 14 = .ok (.iand, 1) := by decide +kernel
theorem dJ6_bitCount_0f7a4_15 : decode cJ6_bitCount_0f7a4 15 = .ok (.iload_n 0, 1) := by decide +kernel
theorem dJ6_bitCount_0f7a4_16 : decode cJ6_bitCount_0f7a4 16 = .ok (.iconst 2, 1) := by decide +kernel
theorem dJ6_bitCount_0f7a4_17 : decode cJ6_bitCount_0f7a4 17 = .ok (.iushr, 1) := by decide +kernel
theorem dJ6_bitCount_0f7a4_18 : decode cJ6_bitCount_0f7a4 18 = .ok (.ldc_w 266, 3) := by decide +kernel
theorem dJ6_bitCount_0f7a4_21 : decode cJ6_bitCount_0f7a4 21 = .ok (.iand, 1) := by decide +kernel
theorem dJ6_bitCount_0f7a4_22 : decode cJ6_bitCount_0f7a4 22 = .ok (.iadd, 1) := by decide +kernel
theorem dJ6_bitCount_0f7a4_23 : decode cJ6_bitCount_0f7a4 23 = .ok (.istore_n 0, 1) := by decide +kernel
theorem dJ6_bitCount_0f7a4_24 : decode cJ6_bitCount_0f7a4 24 = .ok (.iload_n 0, 1) := by decide +kernel
theorem dJ6_bitCount_0f7a4_25 : decode cJ6_bitCount_0f7a4 25 = .ok (.iload_n 0, 1) := by decide +kernel
theorem dJ6_bitCount_0f7a4_26 : decode cJ6_bitCount_0f7a4 26 = .ok (.iconst 4, 1) := by decide +kernel
theorem dJ6_bitCount_0f7a4_27 : decode cJ6_bitCount_0f7a4 27 = .ok (.iushr, 1) := by decide +kernel
theorem dJ6_bitCount_0f7a4_28 : decode cJ6_bitCount_0f7a4 28 = .ok (.iadd, 1) := by decide +kernel
theorem dJ6_bitCount_0f7a4_29 : decode cJ6_bitCount_0f7a4 29 = .ok (.ldc_w 267, 3) := by decide +kernel
theorem dJ6_bitCount_0f7a4_32 : decode cJ6_bitCount_0f7a4 32 = .ok (.iand, 1) := by decide +kernel
theorem dJ6_bitCount_0f7a4_33 : decode cJ6_bitCount_0f7a4 33 = .ok (.istore_n 0, 1) := by decide +kernel
theorem dJ6_bitCount_0f7a4_34 : decode cJ6_bitCount_0f7a4 34 = .ok (.iload_n 0, 1) := by decide +kernel
theorem dJ6_bitCount_0f7a4_35 : decode cJ6_bitCount_0f7a4 35 = .ok (.iload_n 0, 1) := by decide +kernel
theorem dJ6_bitCount_0f7a4_36 : decode cJ6_bitCount_0f7a4 36 = .ok (.bipush 8, 2) := by decide +kernel
theorem dJ6_bitCount_0f7a4_38 : decode cJ6_bitCount_0f7a4 38 = .ok (.iushr, 1) := by decide +kernel
theorem dJ6_bitCount_0f7a4_39 : decode cJ6_bitCount_0f7a4 39 = .ok (.iadd, 1) := by decide +kernel
theorem dJ6_bitCount_0f7a4_40 : decode cJ6_bitCount_0f7a4 40 = .ok (.istore_n 0, 1) := by decide +kernel
theorem dJ6_bitCount_0f7a4_41 : decode cJ6_bitCount_0f7a4 41 = .ok (.iload_n 0, 1) := by decide +kernel
theorem dJ6_bitCount_0f7a4_42 : decode cJ6_bitCount_0f7a4 42 = .ok (.iload_n 0, 1) := by decide +kernel
theorem dJ6_bitCount_0f7a4_43 : decode cJ6_bitCount_0f7a4 43 = .ok (.bipush 16, 2) := by decide +kernel
theorem dJ6_bitCount_0f7a4_45 : decode cJ6_bitCount_0f7a4 45 = .ok (.iushr, 1) := by decide +kernel
theorem dJ6_bitCount_0f7a4_46 : decode cJ6_bitCount_0f7a4 46 = .ok (.iadd, 1) := by decide +kernel
theorem dJ6_bitCount_0f7a4_47 : decode cJ6_bitCount_0f7a4 47 = .ok (.istore_n 0, 1) := by decide +kernel
theorem dJ6_bitCount_0f7a4_48 : decode cJ6_bitCount_0f7a4 48 = .ok (.iload_n 0, 1) := by decide +kernel
theorem dJ6_bitCount_0f7a4_49 : decode cJ6_bitCount_0f7a4 49 = .ok (.bipush 63, 2) := by decide +kernel
theorem dJ6_bitCount_0f7a4_51 : decode cJ6_bitCount_0f7a4 51 = .ok (.iand, 1) := by decide +kernel
theorem dJ6_bitCount_0f7a4_52 : decode cJ6_bitCount_0f7a4 52 = .ok (.ireturn, 1) := by decide +kernel
theorem dJ9_max_7cf53_0 : decode cJ9_max_7cf53 0 = .ok (.iload_n 0, 1) := by decide +kernel
theorem dJ9_max_7cf53_1 : decode cJ9_max_7cf53 1 = .ok (.iload_n 1, 1) := by decide +kernel
theorem dJ9_max_7cf53_2 : decode cJ9_max_7cf53 2 = .ok (.if_icmp .lt 7, 3) := by decide +kernel
theorem dJ9_max_7cf53_5 : decode cJ9_max_7cf53 5 = .ok (.iload_n 0, 1) := by decide +kernel
theorem dJ9_max_7cf53_6 : decode cJ9_max_7cf53 6 = .ok (.goto 4, 3) := by decide +kernel
theorem dJ9_max_7cf53_9 : decode cJ9_max_7cf53 9 = .ok (.iload_n 1, 1) := by decide +kernel
theorem dJ9_max_7cf53_10 : decode cJ9_max_7cf53 10 = .ok (.ireturn, 1) := by decide +kernel
theorem dJ9_min_7cf53_0 : decode cJ9_min_7cf53 0 = .ok (.iload_n 0, 1) := by decide +kernel
theorem dJ9_min_7cf53_1 : decode cJ9_min_7cf53 1 = .ok (.iload_n 1, 1) := by decide +kernel
theorem dJ9_min_7cf53_2 : decode cJ9_min_7cf53 2 = .ok (.if_icmp .gt 7, 3) := by decide +kernel
theorem dJ9_min_7cf53_5 : decode cJ9_min_7cf53 5 = .ok (.iload_n 0, 1) := by decide +kernel
theorem dJ9_min_7cf53_6 : decode cJ9_min_7cf53 6 = .ok (.goto 4, 3) := by decide +kernel
theorem dJ9_min_7cf53_9 : decode cJ9_min_7cf53 9 = .ok (.iload_n 1, 1) := by decide +kernel
theorem dJ9_min_7cf53_10 : decode cJ9_min_7cf53 10 = .ok (.ireturn, 1) := by decide +kernel
theorem dJxa1e45_init_da8c8_0 : decode cJxa1e45_init_da8c8 0 = .ok (.aload_n 0, 1) := by decide +kernel
theorem dJxa1e45_init_da8c8_1 : decode cJxa1e45_init_da8c8 1 = .ok (.invokespecial 1, 3) := by decide +kernel
theorem dJxa1e45_init_da8c8_4 : decode cJxa1e45_init_da8c8 4 = .ok (.return_, 1) := by decide +kernel
theorem dJxc12de_init_da8c8_0 : decode cJxc12de_init_da8c8 0 = .ok (.aload_n 0, 1) := by decide +kernel
theorem dJxc12de_init_da8c8_1 : decode cJxc12de_init_da8c8 1 = .ok (.invokespecial 1, 3) := by decide +kernel
theorem dJxc12de_init_da8c8_4 : decode cJxc12de_init_da8c8 4 = .ok (.aload_n 0, 1) := by decide +kernel
theorem dJxc12de_init_da8c8_5 : decode cJxc12de_init_da8c8 5 = .ok (.iconst 0, 1) := by decide +kernel
theorem dJxc12de_init_da8c8_6 : decode cJxc12de_init_da8c8 6 = .ok (.putfield 7, 3) := by decide +kernel
theorem dJxc12de_init_da8c8_9 : decode cJxc12de_init_da8c8 9 = .ok (.return_, 1) := by decide +kernel
theorem dJx4a65c_init_da8c8_0 : decode cJx4a65c_init_da8c8 0 = .ok (.aload_n 0, 1) := by decide +kernel
theorem dJx4a65c_init_da8c8_1 : decode cJx4a65c_init_da8c8 1 = .ok (.invokespecial 1, 3) := by decide +kernel
theorem dJx4a65c_init_da8c8_4 : decode cJx4a65c_init_da8c8 4 = .ok (.aload_n 0, 1) := by decide +kernel
theorem dJx4a65c_init_da8c8_5 : decode cJx4a65c_init_da8c8 5 = .ok (.getstatic 39, 3) := by decide +kernel
theorem dJx4a65c_init_da8c8_8 : decode cJx4a65c_init_da8c8 8 = .ok (.putfield 9, 3) := by decide +kernel
theorem dJx4a65c_init_da8c8_11 : decode cJx4a65c_init_da8c8 11 = .ok (.return_, 1) := by decide +kernel
theorem dJx4a65c_grow_92f84_0 : decode cJx4a65c_grow_92f84 0 = .ok (.aload_n 0, 1) := by decide +kernel
theorem dJx4a65c_grow_92f84_1 : decode cJx4a65c_grow_92f84 1 = .ok (.getfield 9, 3) := by decide +kernel
theorem dJx4a65c_grow_92f84_4 : decode cJx4a65c_grow_92f84 4 = .ok (.arraylength, 1) := by decide +kernel
theorem dJx4a65c_grow_92f84_5 : decode cJx4a65c_grow_92f84 5 = .ok (.istore_n 2, 1) := by decide +kernel
theorem dJx4a65c_grow_92f84_6 : decode cJx4a65c_grow_92f84 6 = .ok (.iload_n 2, 1) := by decide +kernel
theorem dJx4a65c_grow_92f84_7 : decode cJx4a65c_grow_92f84 7 = .ok (.ifCond .gt 13, 3) := by decide +kernel
theorem dJx4a65c_grow_92f84_10 : decode cJx4a65c_grow_92f84 10 = .ok (.aload_n 0, 1) := by decide +kernel
theorem dJx4a65c_grow_92f84_11 : decode cJx4a65c_grow_92f84 11 = .ok (.getfield 9, 3) := by decide +kernel
theorem dJx4a65c_grow_92f84_14 : decode cJx4a65c_grow_92f84 14 = .ok (.getstatic 39, 3) := by decide +kernel
theorem dJx4a65c_grow_92f84_17 : decode cJx4a65c_grow_92f84 17 = .ok (.if_acmp .eq 28, 3) := by decide +kernel
theorem dJx4a65c_grow_92f84_20 : decode cJx4a65c_grow_92f84 20 = .ok (.iload_n 2, 1) := by decide +kernel
theorem dJx4a65c_grow_92f84_21 : decode cJx4a65c_grow_92f84 21 = .ok (.iload_n 1, 1) := by decide +kernel
theorem dJx4a65c_grow_92f84_22 : decode cJx4a65c_grow_92f84 22 = .ok (.iload_n 2, 1) := by decide +kernel
theorem dJx4a65c_grow_92f84_23 : decode cJx4a65c_grow_92f84 23 = .ok (.isub, 1) := by decide +kernel
theorem dJx4a65c_grow_92f84_24 : decode cJx4a65c_grow_92f84 24 = .ok (.iload_n 2, 1) := by decide +kernel
theorem dJx4a65c_grow_92f84_25 : decode cJx4a65c_grow_92f84 25 = .ok (.iconst 1, 1) := by decide +kernel
theorem dJx4a65c_grow_92f84_26 : decode cJx4a65c_grow_92f84 26 = .ok (.ishr, 1) := by decide +kernel
theorem dJx4a65c_grow_92f84_27 : decode cJx4a65c_grow_92f84 27 = .ok (.invokestatic 73, 3) := by decide +kernel
theorem dJx4a65c_grow_92f84_30 : decode cJx4a65c_grow_92f84 30 = .ok (.istore_n 3, 1) := by decide +kernel
theorem dJx4a65c_grow_92f84_31 : decode cJx4a65c_grow_92f84 31 = .ok (.aload_n 0, 1) := by decide +kernel
theorem dJx4a65c_grow_92f84_32 : decode cJx4a65c_grow_92f84 32 = .ok (.aload_n 0, 1) := by decide +kernel
theorem dJx4a65c_grow_92f84_33 : decode cJx4a65c_grow_92f84 33 = .ok (.getfield 9, 3) := by decide +kernel
theorem dJx4a65c_grow_92f84_36 : decode cJx4a65c_grow_92f84 36 = .ok (.iload_n 3, 1) := by decide +kernel
theorem dJx4a65c_grow_92f84_37 : decode cJx4a65c_grow_92f84 37 = .ok (.invokestatic 66, 3) := by decide +kernel
theorem dJx4a65c_grow_92f84_40 : decode cJx4a65c_grow_92f84 40 = .ok (.dup_x1, 1) := by decide +kernel
theorem dJx4a65c_grow_92f84_41 : decode cJx4a65c_grow_92f84 41 = .ok (.putfield 9, 3) := by decide +kernel
theorem dJx4a65c_grow_92f84_44 : decode cJx4a65c_grow_92f84 44 = .ok (.areturn, 1) := by decide +kernel
theorem dJx4a65c_grow_92f84_45 : decode cJx4a65c_grow_92f84 45 = .ok (.aload_n 0, 1) := by decide +kernel
theorem dJx4a65c_grow_92f84_46 : decode cJx4a65c_grow_92f84 46 = .ok (.bipush 10, 2) := by decide +kernel
theorem dJx4a65c_grow_92f84_48 : decode cJx4a65c_grow_92f84 48 = .ok (.iload_n 1, 1) := by decide +kernel
theorem dJx4a65c_grow_92f84_49 : decode cJx4a65c_grow_92f84 49 = .ok (.invokestatic 79, 3) := by decide +kernel
theorem dJx4a65c_grow_92f84_52 : decode cJx4a65c_grow_92f84 52 = .ok (.anewarray 7, 3) := by decide +kernel
theorem dJx4a65c_grow_92f84_55 : decode cJx4a65c_grow_92f84 55 = .ok (.dup_x1, 1) := by decide +kernel
theorem dJx4a65c_grow_92f84_56 : decode cJx4a65c_grow_92f84 56 = .ok (.putfield 9, 3) := by decide +kernel
theorem dJx4a65c_grow_92f84_59 : decode cJx4a65c_grow_92f84 59 = .ok (.areturn, 1) := by decide +kernel
theorem dJx4a65c_grow_d5877_0 : decode cJx4a65c_grow_d5877 0 = .ok (.aload_n 0, 1) := by decide +kernel
theorem dJx4a65c_grow_d5877_1 : decode cJx4a65c_grow_d5877 1 = .ok (.aload_n 0, 1) := by decide +kernel
theorem dJx4a65c_grow_d5877_2 : decode cJx4a65c_grow_d5877 2 = .ok (.getfield 48, 3) := by decide +kernel
theorem dJx4a65c_grow_d5877_5 : decode cJx4a65c_grow_d5877 5 = .ok (.iconst 1, 1) := by decide +kernel
theorem dJx4a65c_grow_d5877_6 : decode cJx4a65c_grow_d5877 6 = .ok (.iadd, 1) := by decide +kernel
theorem dJx4a65c_grow_d5877_7 : decode cJx4a65c_grow_d5877 7 = .ok (.invokevirtual 69, 3) := by decide +kernel
theorem dJx4a65c_grow_d5877_10 : decode cJx4a65c_grow_d5877 10 = .ok (.areturn, 1) := by decide +kernel
theorem dJx4a65c_size_8abf5_0 : decode cJx4a65c_size_8abf5 0 = .ok (.aload_n 0, 1) := by decide +kernel
theorem dJx4a65c_size_8abf5_1 : decode cJx4a65c_size_8abf5 1 = .ok (.getfield 48, 3) := by decide +kernel
theorem dJx4a65c_size_8abf5_4 : decode cJx4a65c_size_8abf5 4 = .ok (.ireturn, 1) := by decide +kernel
theorem dJx4a65c_isEmpty_aae02_0 : decode cJx4a65c_isEmpty_aae02 0 = .ok (.aload_n 0, 1) := by decide +kernel
theorem dJx4a65c_isEmpty_aae02_1 : decode cJx4a65c_isEmpty_aae02 1 = .ok (.getfield 48, 3) := by decide +kernel
theorem dJx4a65c_isEmpty_aae02_4 : decode cJx4a65c_isEmpty_aae02 4 = .ok (.ifCond .ne 7, 3) := by decide +kernel
theorem dJx4a65c_isEmpty_aae02_7 : decode cJx4a65c_isEmpty_aae02 7 = .ok (.iconst 1, 1) := by decide +kernel
theorem dJx4a65c_isEmpty_aae02_8 : decode cJx4a65c_isEmpty_aae02 8 = .ok (.goto 4, 3) := by decide +kernel
theorem dJx4a65c_isEmpty_aae02_11 : decode cJx4a65c_isEmpty_aae02 11 = .ok (.iconst 0, 1) := by decide +kernel
theorem dJx4a65c_isEmpty_aae02_12 : decode cJx4a65c_isEmpty_aae02 12 = .ok (.ireturn, 1) := by decide +kernel
theorem dJx4a65c_elementData_915e3_0 : decode cJx4a65c_elementData_915e3 0 = .ok (.aload_n 0, 1) := by decide +kernel
theorem dJx4a65c_elementData_915e3_1 : decode cJx4a65c_elementData_915e3 1 = .ok (.getfield 9, 3) := by decide +kernel
theorem dJx4a65c_elementData_915e3_4 : decode cJx4a65c_elementData_915e3 4 = .ok (.iload_n 1, 1) := by decide +kernel
theorem dJx4a65c_elementData_915e3_5 : decode cJx4a65c_elementData_915e3 5 = .ok (.aaload, 1) := by decide +kernel
theorem dJx4a65c_elementData_915e3_6 : decode cJx4a65c_elementData_915e3 6 = .ok (.areturn, 1) := by decide +kernel
theorem dJx4a65c_get_915e3_0 : decode cJx4a65c_get_915e3 0 = .ok (.iload_n 1, 1) := by decide +kernel
theorem dJx4a65c_get_915e3_1 : decode cJx4a65c_get_915e3 1 = .ok (.aload_n 0, 1) := by decide +kernel
theorem dJx4a65c_get_915e3_2 : decode cJx4a65c_get_915e3 2 = .ok (.getfield 48, 3) := by decide +kernel
theorem dJx4a65c_get_915e3_5 : decode cJx4a65c_get_915e3 5 = .ok (.invokestatic 118, 3) := by decide +kernel
theorem dJx4a65c_get_915e3_8 : decode cJx4a65c_get_915e3 8 = .ok (.pop, 1) := by decide +kernel
theorem dJx4a65c_get_915e3_9 : decode cJx4a65c_get_915e3 9 = .ok (.aload_n 0, 1) := by decide +kernel
theorem dJx4a65c_get_915e3_10 : decode cJx4a65c_get_915e3 10 = .ok (.iload_n 1, 1) := by decide +kernel
theorem dJx4a65c_get_915e3_11 : decode cJx4a65c_get_915e3 11 = .ok (.invokevirtual 123, 3) := by decide +kernel
theorem dJx4a65c_get_915e3_14 : decode cJx4a65c_get_915e3 14 = .ok (.areturn, 1) := by decide +kernel
theorem dJx4a65c_set_bcc79_0 : decode cJx4a65c_set_bcc79 0 = .ok (.iload_n 1, 1) := by decide +kernel
theorem dJx4a65c_set_bcc79_1 : decode cJx4a65c_set_bcc79 1 = .ok (.aload_n 0, 1) := by decide +kernel
theorem dJx4a65c_set_bcc79_2 : decode cJx4a65c_set_bcc79 2 = .ok (.getfield 48, 3) := by decide +kernel
theorem dJx4a65c_set_bcc79_5 : decode cJx4a65c_set_bcc79 5 = .ok (.invokestatic 118, 3) := by decide +kernel
theorem dJx4a65c_set_bcc79_8 : decode cJx4a65c_set_bcc79 8 = .ok (.pop, 1) := by decide +kernel
theorem dJx4a65c_set_bcc79_9 : decode cJx4a65c_set_bcc79 9 = .ok (.aload_n 0, 1) := by decide +kernel
theorem dJx4a65c_set_bcc79_10 : decode cJx4a65c_set_bcc79 10 = .ok (.iload_n 1, 1) := by decide +kernel
theorem dJx4a65c_set_bcc79_11 : decode cJx4a65c_set_bcc79 11 = .ok (.invokevirtual 123, 3) := by decide +kernel
theorem dJx4a65c_set_bcc79_14 : decode cJx4a65c_set_bcc79 14 = .ok (.astore_n 3, 1) := by decide +kernel
theorem dJx4a65c_set_bcc79_15 : decode cJx4a65c_set_bcc79 15 = .ok (.aload_n 0, 1) := by decide +kernel
theorem dJx4a65c_set_bcc79_16 : decode cJx4a65c_set_bcc79 16 = .ok (.getfield 9, 3) := by decide +kernel
theorem dJx4a65c_set_bcc79_19 : decode cJx4a65c_set_bcc79 19 = .ok (.iload_n 1, 1) := by decide +kernel
theorem dJx4a65c_set_bcc79_20 : decode cJx4a65c_set_bcc79 20 = .ok (.aload_n 2, 1) := by decide +kernel
theorem dJx4a65c_set_bcc79_21 : decode cJx4a65c_set_bcc79 21 = .ok (.aastore, 1) := by decide +kernel
theorem dJx4a65c_set_bcc79_22 : decode cJx4a65c_set_bcc79 22 = .ok (.aload_n 3, 1) := by decide +kernel
theorem dJx4a65c_set_bcc79_23 : decode cJx4a65c_set_bcc79 23 = .ok (.areturn, 1) := by decide +kernel
theorem dJx4a65c_add_72be8_0 : decode cJx4a65c_add_72be8 0 = .ok (.iload_n 3, 1) := by decide +kernel
theorem dJx4a65c_add_72be8_1 : decode cJx4a65c_add_72be8 1 = .ok (.aload_n 2, 1) := by decide +kernel
theorem dJx4a65c_add_72be8_2 : decode cJx4a65c_add_72be8 2 = .ok (.arraylength, 1) := by decide +kernel
theorem dJx4a65c_add_72be8_3 : decode cJx4a65c_add_72be8 3 = .ok (.if_icmp .ne 8, 3) := by decide +kernel
theorem dJx4a65c_add_72be8_6 : decode cJx4a65c_add_72be8 6 = .ok (.aload_n 0, 1) := by decide +kernel
theorem dJx4a65c_add_72be8_7 : decode cJx4a65c_add_72be8 7 = .ok (.invokevirtual 129, 3) := by decide +kernel
theorem dJx4a65c_add_72be8_10 : decode cJx4a65c_add_72be8 10 = .ok (.astore_n 2, 1) := by decide +kernel
theorem dJx4a65c_add_72be8_11 : decode cJx4a65c_add_72be8 11 = .ok (.aload_n 2, 1) := by decide +kernel
theorem dJx4a65c_add_72be8_12 : decode cJx4a65c_add_72be8 12 = .ok (.iload_n 3, 1) := by decide +kernel
theorem dJx4a65c_add_72be8_13 : decode cJx4a65c_add_72be8 13 = .ok (.aload_n 1, 1) := by decide +kernel
theorem dJx4a65c_add_72be8_14 : decode cJx4a65c_add_72be8 14 = .ok (.aastore, 1) := by decide +kernel
theorem dJx4a65c_add_72be8_15 : decode cJx4a65c_add_72be8 15 = .ok (.aload_n 0, 1) := by decide +kernel
theorem dJx4a65c_add_72be8_16 : decode cJx4a65c_add_72be8 16 = .ok (.iload_n 3, 1) := by decide +kernel
theorem dJx4a65c_add_72be8_17 : decode cJx4a65c_add_72be8 17 = .ok (.iconst 1, 1) := by decide +kernel
theorem dJx4a65c_add_72be8_18 : decode cJx4a65c_add_72be8 18 = .ok (.iadd, 1) := by decide +kernel
theorem dJx4a65c_add_72be8_19 : decode cJx4a65c_add_72be8 19 = .ok (.putfield 48, 3) := by decide +kernel
theorem dJx4a65c_add_72be8_22 : decode cJx4a65c_add_72be8 22 = .ok (.return_, 1) := by decide +kernel
theorem dJx4a65c_add_9ea2d_0 : decode cJx4a65c_add_9ea2d 0 = .ok (.aload_n 0, 1) := by decide +kernel
theorem dJx4a65c_add_9ea2d_1 : decode cJx4a65c_add_9ea2d 1 = .ok (.dup, 1) := by decide +kernel
theorem dJx4a65c_add_9ea2d_2 : decode cJx4a65c_add_9ea2d 2 = .ok (.getfield 63, 3) := by decide +kernel
theorem dJx4a65c_add_9ea2d_5 : decode cJx4a65c_add_9ea2d 5 = .ok (.iconst 1, 1) := by decide +kernel
theorem dJx4a65c_add_9ea2d_6 : decode cJx4a65c_add_9ea2d 6 = .ok (.iadd, 1) := by decide +kernel
theorem dJx4a65c_add_9ea2d_7 : decode cJx4a65c_add_9ea2d 7 = .ok (.putfield 63, 3) := by decide +kernel
theorem dJx4a65c_add_9ea2d_10 : decode cJx4a65c_add_9ea2d 10 = .ok (.aload_n 0, 1) := by decide +kernel
theorem dJx4a65c_add_9ea2d_11 : decode cJx4a65c_add_9ea2d 11 = .ok (.aload_n 1, 1) := by decide +kernel
theorem dJx4a65c_add_9ea2d_12 : decode cJx4a65c_add_9ea2d 12 = .ok (.aload_n 0, 1) := by decide +kernel
theorem dJx4a65c_add_9ea2d_13 : decode cJx4a65c_add_9ea2d 13 = .ok (.getfield 9, 3) := by decide +kernel
theorem dJx4a65c_add_9ea2d_16 : decode cJx4a65c_add_9ea2d 16 = .ok (.aload_n 0, 1) := by decide +kernel
theorem dJx4a65c_add_9ea2d_17 : decode cJx4a65c_add_9ea2d 17 = .ok (.getfield 48, 3) := by decide +kernel
theorem dJx4a65c_add_9ea2d_20 : decode cJx4a65c_add_9ea2d 20 = .ok (.invokevirtual 131, 3) := by decide +kernel
theorem dJx4a65c_add_9ea2d_23 : decode cJx4a65c_add_9ea2d 23 = .ok (.iconst 1, 1) := by decide +kernel
theorem dJx4a65c_add_9ea2d_24 : decode cJx4a65c_add_9ea2d 24 = .ok (.ireturn, 1) := by decide +kernel
theorem dJx4a65c_add_7a177_0 : decode cJx4a65c_add_7a177 0 = .ok (.aload_n 0, 1) := by decide +kernel
theorem dJx4a65c_add_7a177_1 : decode cJx4a65c_add_7a177 1 = .ok (.iload_n 1, 1) := by decide +kernel
theorem dJx4a65c_add_7a177_2 : decode cJx4a65c_add_7a177 2 = .ok (.invokevirtual 135, 3) := by decide +kernel
theorem dJx4a65c_add_7a177_5 : decode cJx4a65c_add_7a177 5 = .ok (.aload_n 0, 1) := by decide +kernel
theorem dJx4a65c_add_7a177_6 : decode cJx4a65c_add_7a177 6 = .ok (.dup, 1) := by decide +kernel
theorem dJx4a65c_add_7a177_7 : decode cJx4a65c_add_7a177 7 = .ok (.getfield 63, 3) := by decide +kernel
theorem dJx4a65c_add_7a177_10 : decode cJx4a65c_add_7a177 10 = .ok (.iconst 1, 1) := by decide +kernel
theorem dJx4a65c_add_7a177_11 : decode cJx4a65c_add_7a177 11 = .ok (.iadd, 1) := by decide +kernel
theorem dJx4a65c_add_7a177_12 : decode cJx4a65c_add_7a177 12 = .ok (.putfield 63, 3) := by decide +kernel
theorem dJx4a65c_add_7a177_15 : decode cJx4a65c_add_7a177 15 = .ok (.aload_n 0, 1) := by decide +kernel
theorem dJx4a65c_add_7a177_16 : decode cJx4a65c_add_7a177 16 = .ok (.getfield 48, 3) := by decide +kernel
theorem dJx4a65c_add_7a177_19 : decode cJx4a65c_add_7a177 19 = .ok (.dup, 1) := by decide +kernel
theorem dJx4a65c_add_7a177_20 : decode cJx4a65c_add_7a177 20 = .ok (.istore_n 3, 1) := by decide +kernel
theorem dJx4a65c_add_7a177_21 : decode cJx4a65c_add_7a177 21 = .ok (.aload_n 0, 1) := by decide +kernel
theorem dJx4a65c_add_7a177_22 : decode cJx4a65c_add_7a177 22 = .ok (.getfield 9, 3) := by decide +kernel
theorem dJx4a65c_add_7a177_25 : decode cJx4a65c_add_7a177 25 = .ok (.dup, 1) := by decide +kernel
theorem dJx4a65c_add_7a177_26 : decode cJx4a65c_add_7a177 26 = .ok (.astore 4, 2) := by decide +kernel
theorem dJx4a65c_add_7a177_28 : decode cJx4a65c_add_7a177 28 = .ok (.arraylength, 1) := by decide +kernel
theorem dJx4a65c_add_7a177_29 : decode cJx4a65c_add_7a177 29 = .ok (.if_icmp .ne 9, 3) := by decide +kernel
theorem dJx4a65c_add_7a177_32 : decode cJx4a65c_add_7a177 32 = .ok (.aload_n 0, 1) := by decide +kernel
theorem dJx4a65c_add_7a177_33 : decode cJx4a65c_add_7a177 33 = .ok (.invokevirtual 129, 3) := by decide +kernel
theorem dJx4a65c_add_7a177_36 : decode cJx4a65c_add_7a177 36 = .ok (.astore 4, 2) := by decide +kernel
theorem dJx4a65c_add_7a177_38 : decode cJx4a65c_add_7a177 38 = .ok (.aload 4, 2) := by decide +kernel
theorem dJx4a65c_add_7a177_40 : decode cJx4a65c_add_7a177 40 = .ok (.iload_n 1, 1) := by decide +kernel
theorem dJx4a65c_add_7a177_41 : decode cJx4a65c_add_7a177 41 = .ok (.aload 4, 2) := by decide +kernel
theorem dJx4a65c_add_7a177_43 : decode cJx4a65c_add_7a177 43 = .ok (.iload_n 1, 1) := by decide +kernel
theorem dJx4a65c_add_7a177_44 : decode cJx4a65c_add_7a177 44 = .ok (.iconst 1, 1) := by decide +kernel
theorem dJx4a65c_add_7a177_45 : decode cJx4a65c_add_7a177 45 = .ok (.iadd, 1) := by decide +kernel
theorem dJx4a65c_add_7a177_46 : decode cJx4a65c_add_7a177 46 = .ok (.iload_n 3, 1) := by decide +kernel
theorem dJx4a65c_add_7a177_47 : decode cJx4a65c_add_7a177 47 = .ok (.iload_n 1, 1) := by decide +kernel
theorem dJx4a65c_add_7a177_48 : decode cJx4a65c_add_7a177 48 = .ok (.isub, 1) := by decide +kernel
theorem dJx4a65c_add_7a177_49 : decode cJx4a65c_add_7a177 49 = .ok (.invokestatic 112, 3) := by decide +kernel
theorem dJx4a65c_add_7a177_52 : decode cJx4a65c_add_7a177 52 = .ok (.aload 4, 2) := by decide +kernel
theorem dJx4a65c_add_7a177_54 : decode cJx4a65c_add_7a177 54 = .ok (.iload_n 1, 1) := by decide +kernel
theorem dJx4a65c_add_7a177_55 : decode cJx4a65c_add_7a177 55 = .ok (.aload_n 2, 1) := by decide +kernel
theorem dJx4a65c_add_7a177_56 : decode cJx4a65c_add_7a177 56 = .ok (.aastore, 1) := by decide +kernel
theorem dJx4a65c_add_7a177_57 : decode cJx4a65c_add_7a177 57 = .ok (.aload_n 0, 1) := by decide +kernel
theorem dJx4a65c_add_7a177_58 : decode cJx4a65c_add_7a177 58 = .ok (.iload_n 3, 1) := by decide +kernel
theorem dJx4a65c_add_7a177_59 : decode cJx4a65c_add_7a177 59 = .ok (.iconst 1, 1) := by decide +kernel
theorem dJx4a65c_add_7a177_60 : decode cJx4a65c_add_7a177 60 = .ok (.iadd, 1) := by decide +kernel
theorem dJx4a65c_add_7a177_61 : decode cJx4a65c_add_7a177 61 = .ok (.putfield 48, 3) := by decide +kernel
theorem dJx4a65c_add_7a177_64 : decode cJx4a65c_add_7a177 64 = .ok (.return_, 1) := by decide +kernel
theorem dJx4a65c_remove_915e3_0 : decode cJx4a65c_remove_915e3 0 = .ok (.iload_n 1, 1) := by decide +kernel
theorem dJx4a65c_remove_915e3_1 : decode cJx4a65c_remove_915e3 1 = .ok (.aload_n 0, 1) := by decide +kernel
theorem dJx4a65c_remove_915e3_2 : decode cJx4a65c_remove_915e3 2 = .ok (.getfield 48, 3) := by decide +kernel
theorem dJx4a65c_remove_915e3_5 : decode cJx4a65c_remove_915e3 5 = .ok (.invokestatic 118, 3) := by decide +kernel
theorem dJx4a65c_remove_915e3_8 : decode cJx4a65c_remove_915e3 8 = .ok (.pop, 1) := by decide +kernel
theorem dJx4a65c_remove_915e3_9 : decode cJx4a65c_remove_915e3 9 = .ok (.aload_n 0, 1) := by decide +kernel
theorem dJx4a65c_remove_915e3_10 : decode cJx4a65c_remove_915e3 10 = .ok (.getfield 9, 3) := by decide +kernel
theorem dJx4a65c_remove_915e3_13 : decode cJx4a65c_remove_915e3 13 = .ok (.astore_n 2, 1) := by decide +kernel
theorem dJx4a65c_remove_915e3_14 : decode cJx4a65c_remove_915e3 14 = .ok (.aload_n 2, 1) := by decide +kernel
theorem dJx4a65c_remove_915e3_15 : decode cJx4a65c_remove_915e3 15 = .ok (.iload_n 1, 1) := by decide +kernel
theorem dJx4a65c_remove_915e3_16 : decode cJx4a65c_remove_915e3 16 = .ok (.aaload, 1) := by decide +kernel
theorem dJx4a65c_remove_915e3_17 : decode cJx4a65c_remove_915e3 17 = .ok (.astore_n 3, 1) := by decide +kernel
theorem dJx4a65c_remove_915e3_18 : decode cJx4a65c_remove_915e3 18 = .ok (.aload_n 0, 1) := by decide +kernel
theorem dJx4a65c_remove_915e3_19 : decode cJx4a65c_remove_915e3 19 = .ok (.aload_n 2, 1) := by decide +kernel
theorem dJx4a65c_remove_915e3_20 : decode cJx4a65c_remove_915e3 20 = .ok (.iload_n 1, 1) := by decide +kernel
theorem dJx4a65c_remove_915e3_21 : decode cJx4a65c_remove_915e3 21 = .ok (.invokevirtual 144, 3) := by decide +kernel
theorem dJx4a65c_remove_915e3_24 : decode cJx4a65c_remove_915e3 24 = .ok (.aload_n 3, 1) := by decide +kernel
theorem dJx4a65c_remove_915e3_25 : decode cJx4a65c_remove_915e3 25 = .ok (.areturn, 1) := by decide +kernel
theorem dJx4a65c_fastRemove_b59b0_0 : decode cJx4a65c_fastRemove_b59b0 0 = .ok (.aload_n 0, 1) := by decide +kernel
theorem dJx4a65c_fastRemove_b59b0_1 : decode cJx4a65c_fastRemove_b59b0 1 = .ok (.dup, 1) := by decide +kernel
theorem dJx4a65c_fastRemove_b59b0_2 : decode cJx4a65c_fastRemove_b59b0 2 = .ok (.getfield 63, 3) := by decide +kernel
theorem dJx4a65c_fastRemove_b59b0_5 : decode cJx4a65c_fastRemove_b59b0 5 = .ok (.iconst 1, 1) := by decide +kernel
theorem dJx4a65c_fastRemove_b59b0_6 : decode cJx4a65c_fastRemove_b59b0 6 = .ok (.iadd, 1) := by decide +kernel
theorem dJx4a65c_fastRemove_b59b0_7 : decode cJx4a65c_fastRemove_b59b0 7 = .ok (.putfield 63, 3) := by decide +kernel
theorem dJx4a65c_fastRemove_b59b0_10 : decode cJx4a65c_fastRemove_b59b0 10 = .ok (.aload_n 0, 1) := by decide +kernel
theorem dJx4a65c_fastRemove_b59b0_11 : decode cJx4a65c_fastRemove_b59b0 11 = .ok (.getfield 48, 3) := by decide +kernel
theorem dJx4a65c_fastRemove_b59b0_14 : decode cJx4a65c_fastRemove_b59b0 14 = .ok (.iconst 1, 1) := by decide +kernel
theorem dJx4a65c_fastRemove_b59b0_15 : decode cJx4a65c_fastRemove_b59b0 15 = .ok (.isub, 1) := by decide +kernel
theorem dJx4a65c_fastRemove_b59b0_16 : decode cJx4a65c_fastRemove_b59b0 16 = .ok (.dup, 1) := by decide +kernel
theorem dJx4a65c_fastRemove_b59b0_17 : decode cJx4a65c_fastRemove_b59b0 17 = .ok (.istore_n 3, 1) := by decide +kernel
theorem dJx4a65c_fastRemove_b59b0_18 : decode cJx4a65c_fastRemove_b59b0 18 = .ok (.iload_n 2, 1) := by decide +kernel
theorem dJx4a65c_fastRemove_b59b0_19 : decode cJx4a65c_fastRemove_b59b0 19 = .ok (.if_icmp .le 15, 3) := by decide +kernel
theorem dJx4a65c_fastRemove_b59b0_22 : decode cJx4a65c_fastRemove_b59b0 22 = .ok (.aload_n 1, 1) := by decide +kernel
theorem dJx4a65c_fastRemove_b59b0_23 : decode cJx4a65c_fastRemove_b59b0 23 = .ok (.iload_n 2, 1) := by decide +kernel
theorem dJx4a65c_fastRemove_b59b0_24 : decode cJx4a65c_fastRemove_b59b0 24 = .ok (.iconst 1, 1) := by decide +kernel
theorem dJx4a65c_fastRemove_b59b0_25 : decode cJx4a65c_fastRemove_b59b0 25 = .ok (.iadd, 1) := by decide +kernel
theorem dJx4a65c_fastRemove_b59b0_26 : decode cJx4a65c_fastRemove_b59b0 26 = .ok (.aload_n 1, 1) := by decide +kernel
theorem dJx4a65c_fastRemove_b59b0_27 : decode cJx4a65c_fastRemove_b59b0 27 = .ok (.iload_n 2, 1) := by decide +kernel
theorem dJx4a65c_fastRemove_b59b0_28 : decode cJx4a65c_fastRemove_b59b0 28 = .ok (.iload_n 3, 1) := by decide +kernel
theorem dJx4a65c_fastRemove_b59b0_29 : decode cJx4a65c_fastRemove_b59b0 29 = .ok (.iload_n 2, 1) := by decide +kernel
theorem dJx4a65c_fastRemove_b59b0_30 : decode cJx4a65c_fastRemove_b59b0 30 = .ok (.isub, 1) := by decide +kernel
theorem dJx4a65c_fastRemove_b59b0_31 : decode cJx4a65c_fastRemove_b59b0 31 = .ok (.invokestatic 112, 3) := by decide +kernel
theorem dJx4a65c_fastRemove_b59b0_34 : decode cJx4a65c_fastRemove_b59b0 34 = .ok (.aload_n 1, 1) := by decide +kernel
theorem dJx4a65c_fastRemove_b59b0_35 : decode cJx4a65c_fastRemove_b59b0 35 = .ok (.aload_n 0, 1) := by decide +kernel
theorem dJx4a65c_fastRemove_b59b0_36 : decode cJx4a65c_fastRemove_b59b0 36 = .ok (.iload_n 3, 1) := by decide +kernel
theorem dJx4a65c_fastRemove_b59b0_37 : decode cJx4a65c_fastRemove_b59b0 37 = .ok (.dup_x1, 1) := by decide +kernel
theorem dJx4a65c_fastRemove_b59b0_38 : decode cJx4a65c_fastRemove_b59b0 38 = .ok (.putfield 48, 3) := by decide +kernel
theorem dJx4a65c_fastRemove_b59b0_41 : decode cJx4a65c_fastRemove_b59b0 41 = .ok (.aconst_null, 1) := by decide +kernel
theorem dJx4a65c_fastRemove_b59b0_42 : decode cJx4a65c_fastRemove_b59b0 42 = .ok (.aastore, 1) := by decide +kernel
theorem dJx4a65c_fastRemove_b59b0_43 : decode cJx4a65c_fastRemove_b59b0 43 = .ok (.return_, 1) := by decide +kernel
theorem dJx4a65c_clear_da8c8_0 : decode cJx4a65c_clear_da8c8 0 = .ok (.aload_n 0, 1) := by decide +kernel
theorem dJx4a65c_clear_da8c8_1 : decode cJx4a65c_clear_da8c8 1 = .ok (.dup, 1) := by decide +kernel
theorem dJx4a65c_clear_da8c8_2 : decode cJx4a65c_clear_da8c8 2 = .ok (.getfield 63, 3) := by decide +kernel
theorem dJx4a65c_clear_da8c8_5 : decode cJx4a65c_clear_da8c8 5 = .ok (.iconst 1, 1) := by decide +kernel
theorem dJx4a65c_clear_da8c8_6 : decode cJx4a65c_clear_da8c8 6 = .ok (.iadd, 1) := by decide +kernel
theorem dJx4a65c_clear_da8c8_7 : decode cJx4a65c_clear_da8c8 7 = .ok (.putfield 63, 3) := by decide +kernel
theorem dJx4a65c_clear_da8c8_10 : decode cJx4a65c_clear_da8c8 10 = .ok (.aload_n 0, 1) := by decide +kernel
theorem dJx4a65c_clear_da8c8_11 : decode cJx4a65c_clear_da8c8 11 = .ok (.getfield 9, 3) := by decide +kernel
theorem dJx4a65c_clear_da8c8_14 : decode cJx4a65c_clear_da8c8 14 = .ok (.astore_n 1, 1) := by decide +kernel
theorem dJx4a65c_clear_da8c8_15 : decode cJx4a65c_clear_da8c8 15 = .ok (.aload_n 0, 1) := by decide +kernel
theorem dJx4a65c_clear_da8c8_16 : decode cJx4a65c_clear_da8c8 16 = .ok (.getfield 48, 3) := by decide +kernel
theorem dJx4a65c_clear_da8c8_19 : decode cJx4a65c_clear_da8c8 19 = .ok (.istore_n 2, 1) := by decide +kernel
theorem dJx4a65c_clear_da8c8_20 : decode cJx4a65c_clear_da8c8 20 = .ok (.aload_n 0, 1) := by decide +kernel
theorem dJx4a65c_clear_da8c8_21 : decode cJx4a65c_clear_da8c8 21 = .ok (.iconst 0, 1) := by decide +kernel
theorem dJx4a65c_clear_da8c8_22 : decode cJx4a65c_clear_da8c8 22 = .ok (.dup_x1, 1) := by decide +kernel
theorem dJx4a65c_clear_da8c8_23 : decode cJx4a65c_clear_da8c8 23 = .ok (.putfield 48, 3) := by decide +kernel
theorem dJx4a65c_clear_da8c8_26 : decode cJx4a65c_clear_da8c8 26 = .ok (.istore_n 3, 1) := by decide +kernel
theorem dJx4a65c_clear_da8c8_27 : decode cJx4a65c_clear_da8c8 27 = .ok (.iload_n 3, 1) := by decide +kernel
theorem dJx4a65c_clear_da8c8_28 : decode cJx4a65c_clear_da8c8 28 = .ok (.iload_n 2, 1) := by decide +kernel
theorem dJx4a65c_clear_da8c8_29 : decode cJx4a65c_clear_da8c8 29 = .ok (.if_icmp .ge 13, 3) := by decide +kernel
theorem dJx4a65c_clear_da8c8_32 : decode cJx4a65c_clear_da8c8 32 = .ok (.aload_n 1, 1) := by decide +kernel
theorem dJx4a65c_clear_da8c8_33 : decode cJx4a65c_clear_da8c8 33 = .ok (.iload_n 3, 1) := by decide +kernel
theorem dJx4a65c_clear_da8c8_34 : decode cJx4a65c_clear_da8c8 34 = .ok (.aconst_null, 1) := by decide +kernel
theorem dJx4a65c_clear_da8c8_35 : decode cJx4a65c_clear_da8c8 35 = .ok (.aastore, 1) := by decide +kernel
theorem dJx4a65c_clear_da8c8_36 : decode cJx4a65c_clear_da8c8 36 = .ok (.iinc 3 1, 3) := by decide +kernel
theorem dJx4a65c_clear_da8c8_39 : decode cJx4a65c_clear_da8c8 39 = .ok (.goto (-12), 3) := by decide +kernel
theorem dJx4a65c_clear_da8c8_42 : decode cJx4a65c_clear_da8c8 42 = .ok (.return_, 1) := by decide +kernel
theorem dJx4a65c_rangeCheckForAdd_d00df_0 : decode cJx4a65c_rangeCheckForAdd_d00df 0 = .ok (.iload_n 1, 1) := by decide +kernel
theorem dJx4a65c_rangeCheckForAdd_d00df_1 : decode cJx4a65c_rangeCheckForAdd_d00df 1 = .ok (.aload_n 0, 1) := by decide +kernel
theorem dJx4a65c_rangeCheckForAdd_d00df_2 : decode cJx4a65c_rangeCheckForAdd_d00df 2 = .ok (.getfield 48, 3) := by decide +kernel
theorem dJx4a65c_rangeCheckForAdd_d00df_5 : decode cJx4a65c_rangeCheckForAdd_d00df 5 = .ok (.if_icmp .gt 7, 3) := by decide +kernel
theorem dJx4a65c_rangeCheckForAdd_d00df_8 : decode cJx4a65c_rangeCheckForAdd_d00df 8 = .ok (.iload_n 1, 1) := by decide +kernel
theorem dJx4a65c_rangeCheckForAdd_d00df_9 : decode cJx4a65c_rangeCheckForAdd_d00df 9 = .ok (.ifCond .ge 16, 3) := by decide +kernel
theorem dJx4a65c_rangeCheckForAdd_d00df_12 : decode cJx4a65c_rangeCheckForAdd_d00df 12 = .ok (.new 187, 3) := by decide +kernel
theorem dJx4a65c_rangeCheckForAdd_d00df_15 : decode cJx4a65c_rangeCheckForAdd_d00df 15 = .ok (.dup, 1) := by decide +kernel
theorem dJx4a65c_rangeCheckForAdd_d00df_16 : decode cJx4a65c_rangeCheckForAdd_d00df 16 = .ok (.aload_n 0, 1) := by decide +kernel
theorem dJx4a65c_rangeCheckForAdd_d00df_17 : decode cJx4a65c_rangeCheckForAdd_d00df 17 = .ok (.iload_n 1, 1) := by decide +kernel
theorem dJx4a65c_rangeCheckForAdd_d00df_18 : decode cJx4a65c_rangeCheckForAdd_d00df 18 = .ok (.invokevirtual 198, 3) := by decide +kernel
theorem dJx4a65c_rangeCheckForAdd_d00df_21 : decode cJx4a65c_rangeCheckForAdd_d00df 21 = .ok (.invokespecial 193, 3) := by decide +kernel
theorem dJx4a65c_rangeCheckForAdd_d00df_24 : decode cJx4a65c_rangeCheckForAdd_d00df 24 = .ok (.athrow, 1) := by decide +kernel
theorem dJx4a65c_rangeCheckForAdd_d00df_25 : decode cJx4a65c_rangeCheckForAdd_d00df 25 = .ok (.return_, 1) := by decide +kernel
theorem dJ7_copyOf_1904c_0 : decode cJ7_copyOf_1904c 0 = .ok (.aload_n 0, 1) := by decide +kernel
theorem dJ7_copyOf_1904c_1 : decode cJ7_copyOf_1904c 1 = .ok (.iload_n 1, 1) := by decide +kernel
theorem dJ7_copyOf_1904c_2 : decode cJ7_copyOf_1904c 2 = .ok (.aload_n 0, 1) := by decide +kernel
theorem dJ7_copyOf_1904c_3 : decode cJ7_copyOf_1904c 3 = .ok (.invokevirtual 86, 3) := by decide +kernel
theorem dJ7_copyOf_1904c_6 : decode cJ7_copyOf_1904c 6 = .ok (.invokestatic 300, 3) := by decide +kernel
theorem dJ7_copyOf_1904c_9 : decode cJ7_copyOf_1904c 9 = .ok (.areturn, 1) := by decide +kernel
theorem dJ7_copyOf_6403c_0 : decode cJ7_copyOf_6403c 0 = .ok (.aload_n 2, 1) := by decide +kernel
theorem dJ7_copyOf_6403c_1 : decode cJ7_copyOf_6403c 1 = .ok (.ldc 110, 2) := by decide +kernel
theorem dJ7_copyOf_6403c_3 : decode cJ7_copyOf_6403c 3 = .ok (.if_acmp .ne 10, 3) := by decide +kernel
theorem dJ7_copyOf_6403c_6 : decode cJ7_copyOf_6403c 6 = .ok (.iload_n 1, 1) := by decide +kernel
theorem dJ7_copyOf_6403c_7 : decode cJ7_copyOf_6403c 7 = .ok (.anewarray 2, 3) := by decide +kernel
theorem dJ7_copyOf_6403c_10 : decode cJ7_copyOf_6403c 10 = .ok (.goto 14, 3) := by decide +kernel
theorem dJ7_copyOf_6403c_13 : decode cJ7_copyOf_6403c 13 = .ok (.aload_n 2, 1) := by decide +kernel
theorem dJ7_copyOf_6403c_14 : decode cJ7_copyOf_6403c 14 = .ok (.invokevirtual 90, 3) := by decide +kernel
theorem dJ7_copyOf_6403c_17 : decode cJ7_copyOf_6403c 17 = .ok (.iload_n 1, 1) := by decide +kernel
theorem dJ7_copyOf_6403c_18 : decode cJ7_copyOf_6403c 18 = .ok (.invokestatic 95, 3) := by decide +kernel
theorem dJ7_copyOf_6403c_21 : decode cJ7_copyOf_6403c 21 = .ok (.checkcast 110, 3) := by decide +kernel
theorem dJ7_copyOf_6403c_24 : decode cJ7_copyOf_6403c 24 = .ok (.astore_n 3, 1) := by decide +kernel
theorem dJ7_copyOf_6403c_25 : decode cJ7_copyOf_6403c 25 = .ok (.aload_n 0, 1) := by decide +kernel
theorem dJ7_copyOf_6403c_26 : decode cJ7_copyOf_6403c 26 = .ok (.iconst 0, 1) := by decide +kernel
theorem dJ7_copyOf_6403c_27 : decode cJ7_copyOf_6403c 27 = .ok (.aload_n 3, 1) := by decide +kernel
theorem dJ7_copyOf_6403c_28 : decode cJ7_copyOf_6403c 28 = .ok (.iconst 0, 1) := by decide +kernel
theorem dJ7_copyOf_6403c_29 : decode cJ7_copyOf_6403c 29 = .ok (.aload_n 0, 1) := by decide +kernel
theorem dJ7_copyOf_6403c_30 : decode cJ7_copyOf_6403c 30 = .ok (.arraylength, 1) := by decide +kernel
theorem dJ7_copyOf_6403c_31 : decode cJ7_copyOf_6403c 31 = .ok (.iload_n 1, 1) := by decide +kernel
theorem dJ7_copyOf_6403c_32 : decode cJ7_copyOf_6403c 32 = .ok (.invokestatic 304, 3) := by decide +kernel
theorem dJ7_copyOf_6403c_35 : decode cJ7_copyOf_6403c 35 = .ok (.invokestatic 150, 3) := by decide +kernel
theorem dJ7_copyOf_6403c_38 : decode cJ7_copyOf_6403c 38 = .ok (.aload_n 3, 1) := by decide +kernel
theorem dJ7_copyOf_6403c_39 : decode cJ7_copyOf_6403c 39 = .ok (.areturn, 1) := by decide +kernel
theorem dJ15_checkIndex_7cf53_0 : decode cJ15_checkIndex_7cf53 0 = .ok (.iload_n 0, 1) := by decide +kernel
theorem dJ15_checkIndex_7cf53_1 : decode cJ15_checkIndex_7cf53 1 = .ok (.iload_n 1, 1) := by decide +kernel
theorem dJ15_checkIndex_7cf53_2 : decode cJ15_checkIndex_7cf53 2 = .ok (.aconst_null, 1) := by decide +kernel
theorem dJ15_checkIndex_7cf53_3 : decode cJ15_checkIndex_7cf53 3 = .ok (.invokestatic 105, 3) := by decide +kernel
theorem dJ15_checkIndex_7cf53_6 : decode cJ15_checkIndex_7cf53 6 = .ok (.ireturn, 1) := by decide +kernel
theorem dJ8_newLength_cabcc_0 : decode cJ8_newLength_cabcc 0 = .ok (.iload_n 0, 1) := by decide +kernel
theorem dJ8_newLength_cabcc_1 : decode cJ8_newLength_cabcc 1 = .ok (.iload_n 1, 1) := by decide +kernel
theorem dJ8_newLength_cabcc_2 : decode cJ8_newLength_cabcc 2 = .ok (.iload_n 2, 1) := by decide +kernel
theorem dJ8_newLength_cabcc_3 : decode cJ8_newLength_cabcc 3 = .ok (.invokestatic 194, 3) := by decide +kernel
theorem dJ8_newLength_cabcc_6 : decode cJ8_newLength_cabcc 6 = .ok (.iadd, 1) := by decide +kernel
theorem dJ8_newLength_cabcc_7 : decode cJ8_newLength_cabcc 7 = .ok (.istore_n 3, 1) := by decide +kernel
theorem dJ8_newLength_cabcc_8 : decode cJ8_newLength_cabcc 8 = .ok (.iconst 0, 1) := by decide +kernel
theorem dJ8_newLength_cabcc_9 : decode cJ8_newLength_cabcc 9 = .ok (.iload_n 3, 1) := by decide +kernel
theorem dJ8_newLength_cabcc_10 : decode cJ8_newLength_cabcc 10 = .ok (.if_icmp .ge 11, 3) := by decide +kernel
theorem dJ8_newLength_cabcc_13 : decode cJ8_newLength_cabcc 13 = .ok (.iload_n 3, 1) := by decide +kernel
theorem dJ8_newLength_cabcc_14 : decode cJ8_newLength_cabcc 14 = .ok (.ldc 200, 2) := by decide +kernel
theorem dJ8_newLength_cabcc_16 : decode cJ8_newLength_cabcc 16 = .ok (.if_icmp .gt 5, 3) := by decide +kernel
theorem dJ8_newLength_cabcc_19 : decode cJ8_newLength_cabcc 19 = .ok (.iload_n 3, 1) := by decide +kernel
theorem dJ8_newLength_cabcc_20 : decode cJ8_newLength_cabcc 20 = .ok (.ireturn, 1) := by decide +kernel
theorem dJ8_newLength_cabcc_21 : decode cJ8_newLength_cabcc 21 = .ok (.iload_n 0, 1) := by decide +kernel
theorem dJ8_newLength_cabcc_22 : decode cJ8_newLength_cabcc 22 = .ok (.iload_n 1, 1) := by decide +kernel
theorem dJ8_newLength_cabcc_23 : decode cJ8_newLength_cabcc 23 = .ok (.invokestatic 201, 3) := by decide +kernel
theorem dJ8_newLength_cabcc_26 : decode cJ8_newLength_cabcc 26 = .ok (.ireturn, 1) := by decide +kernel
theorem dJ8_hugeLength_7cf53_0 : decode cJ8_hugeLength_7cf53 0 = .ok (.iload_n 0, 1) := by decide +kernel
theorem dJ8_hugeLength_7cf53_1 : decode cJ8_hugeLength_7cf53 1 = .ok (.iload_n 1, 1) := by decide +kernel
theorem dJ8_hugeLength_7cf53_2 : decode cJ8_hugeLength_7cf53 2 = .ok (.iadd, 1) := by decide +kernel
theorem dJ8_hugeLength_7cf53_3 : decode cJ8_hugeLength_7cf53 3 = .ok (.istore_n 2, 1) := by decide +kernel
theorem dJ8_hugeLength_7cf53_4 : decode cJ8_hugeLength_7cf53 4 = .ok (.iload_n 2, 1) := by decide +kernel
theorem dJ8_hugeLength_7cf53_5 : decode cJ8_hugeLength_7cf53 5 = .ok (.ifCond .ge 44, 3) := by decide +kernel
theorem dJ8_hugeLength_7cf53_8 : decode cJ8_hugeLength_7cf53 8 = .ok (.new 204, 3) := by decide +kernel
theorem dJ8_hugeLength_7cf53_11 : decode cJ8_hugeLength_7cf53 11 = .ok (.dup, 1) := by decide +kernel
theorem dJ8_hugeLength_7cf53_12 : decode cJ8_hugeLength_7cf53 12 = .ok (.new 89, 3) := by decide +kernel
theorem dJ8_hugeLength_7cf53_15 : decode cJ8_hugeLength_7cf53 15 = .ok (.dup, 1) := by decide +kernel
theorem dJ8_hugeLength_7cf53_16 : decode cJ8_hugeLength_7cf53 16 = .ok (.invokespecial 91, 3) := by decide +kernel
theorem dJ8_hugeLength_7cf53_19 : decode cJ8_hugeLength_7cf53 19 = .ok (.ldc 206, 2) := by decide +kernel
theorem dJ8_hugeLength_7cf53_21 : decode cJ8_hugeLength_7cf53 21 = .ok (.invokevirtual 94, 3) := by decide +kernel
theorem dJ8_hugeLength_7cf53_24 : decode cJ8_hugeLength_7cf53 24 = .ok (.iload_n 0, 1) := by decide +kernel
theorem dJ8_hugeLength_7cf53_25 : decode cJ8_hugeLength_7cf53 25 = .ok (.invokevirtual 98, 3) := by decide +kernel
theorem dJ8_hugeLength_7cf53_28 : decode cJ8_hugeLength_7cf53 28 = .ok (.ldc 208, 2) := by decide +kernel
theorem dJ8_hugeLength_7cf53_30 : decode cJ8_hugeLength_7cf53 30 = .ok (.invokevirtual 94, 3) := by decide +kernel
theorem dJ8_hugeLength_7cf53_33 : decode cJ8_hugeLength_7cf53 33 = .ok (.iload_n 1, 1) := by decide +kernel
theorem dJ8_hugeLength_7cf53_34 : decode cJ8_hugeLength_7cf53 34 = .ok (.invokevirtual 98, 3) := by decide +kernel
theorem dJ8_hugeLength_7cf53_37 : decode cJ8_hugeLength_7cf53 37 = .ok (.ldc 210, 2) := by decide +kernel
theorem dJ8_hugeLength_7cf53_39 : decode cJ8_hugeLength_7cf53 39 = .ok (.invokevirtual 94, 3) := by decide +kernel
theorem dJ8_hugeLength_7cf53_42 : decode cJ8_hugeLength_7cf53 42 = .ok (.invokevirtual 101, 3) := by decide +kernel
theorem dJ8_hugeLength_7cf53_45 : decode cJ8_hugeLength_7cf53 45 = .ok (.invokespecial 212, 3) := by decide +kernel
theorem dJ8_hugeLength_7cf53_48 : decode cJ8_hugeLength_7cf53 48 = .ok (.athrow, 1) := by decide +kernel
theorem dJ8_hugeLength_7cf53_49 : decode cJ8_hugeLength_7cf53 49 = .ok (.iload_n 2, 1) := by decide +kernel
theorem dJ8_hugeLength_7cf53_50 : decode cJ8_hugeLength_7cf53 50 = .ok (.ldc 200, 2) := by decide +kernel
theorem dJ8_hugeLength_7cf53_52 : decode cJ8_hugeLength_7cf53 52 = .ok (.if_icmp .gt 6, 3) := by decide +kernel
theorem dJ8_hugeLength_7cf53_55 : decode cJ8_hugeLength_7cf53 55 = .ok (.ldc 200, 2) := by decide +kernel
theorem dJ8_hugeLength_7cf53_57 : decode cJ8_hugeLength_7cf53 57 = .ok (.ireturn, 1) := by decide +kernel
theorem dJ8_hugeLength_7cf53_58 : decode cJ8_hugeLength_7cf53 58 = .ok (.iload_n 2, 1) := by decide +kernel
theorem dJ8_hugeLength_7cf53_59 : decode cJ8_hugeLength_7cf53 59 = .ok (.ireturn, 1) := by decide +kernel
theorem dJ3_checkIndex_8e157_0 : decode cJ3_checkIndex_8e157 0 = .ok (.iload_n 0, 1) := by decide +kernel
theorem dJ3_checkIndex_8e157_1 : decode cJ3_checkIndex_8e157 1 = .ok (.ifCond .lt 8, 3) := by decide +kernel
theorem dJ3_checkIndex_8e157_4 : decode cJ3_checkIndex_8e157 4 = .ok (.iload_n 0, 1) := by decide +kernel
theorem dJ3_checkIndex_8e157_5 : decode cJ3_checkIndex_8e157 5 = .ok (.iload_n 1, 1) := by decide +kernel
theorem dJ3_checkIndex_8e157_6 : decode cJ3_checkIndex_8e157 6 = .ok (.if_icmp .lt 10, 3) := by decide +kernel
theorem dJ3_checkIndex_8e157_9 : decode cJ3_checkIndex_8e157 9 = .ok (.aload_n 2, 1) := by decide +kernel
theorem dJ3_checkIndex_8e157_10 : decode cJ3_checkIndex_8e157 10 = .ok (.iload_n 0, 1) := by decide +kernel
theorem dJ3_checkIndex_8e157_11 : decode cJ3_checkIndex_8e157 11 = .ok (.iload_n 1, 1) := by decide +kernel
theorem dJ3_checkIndex_8e157_12 : decode cJ3_checkIndex_8e157 12 = .ok (.invokestatic 95, 3) := by decide +kernel
theorem dJ3_checkIndex_8e157_15 : decode cJ3_checkIndex_8e157 15 = .ok (.athrow, 1) := by decide +kernel
theorem dJ3_checkIndex_8e157_16 : decode cJ3_checkIndex_8e157 16 = .ok (.iload_n 0, 1) := by decide +kernel
theorem dJ3_checkIndex_8e157_17 : decode cJ3_checkIndex_8e157 17 = .ok (.ireturn, 1) := by decide +kernel
theorem dL_addMachine_0 : decode cL_addMachine 0 = .ok (.aload_n 1, 1) := by decide +kernel
theorem dL_addMachine_1 : decode cL_addMachine 1 = .ok (.iconst 0, 1) := by decide +kernel
theorem dL_addMachine_2 : decode cL_addMachine 2 = .ok (.aload_n 0, 1) := by decide +kernel
theorem dL_addMachine_3 : decode cL_addMachine 3 = .ok (.invokevirtual 7, 3) := by decide +kernel
theorem dL_addMachine_6 : decode cL_addMachine 6 = .ok (.i2l, 1) := by decide +kernel
theorem dL_addMachine_7 : decode cL_addMachine 7 = .ok (.lastore, 1) := by decide +kernel
theorem dL_addMachine_8 : decode cL_addMachine 8 = .ok (.goto 6, 3) := by decide +kernel
theorem dL_addMachine_11 : decode cL_addMachine 11 = .ok (.astore_n 2, 1) := by decide +kernel
theorem dL_addMachine_12 : decode cL_addMachine 12 = .ok (.iconst 1, 1) := by decide +kernel
theorem dL_addMachine_13 : decode cL_addMachine 13 = .ok (.ireturn, 1) := by decide +kernel
theorem dL_addMachine_14 : decode cL_addMachine 14 = .ok (.iconst 0, 1) := by decide +kernel
theorem dL_addMachine_15 : decode cL_addMachine 15 = .ok (.ireturn, 1) := by decide +kernel
theorem dL_setMagazine_0 : decode cL_setMagazine 0 = .ok (.aload_n 3, 1) := by decide +kernel
theorem dL_setMagazine_1 : decode cL_setMagazine 1 = .ok (.iconst 0, 1) := by decide +kernel
theorem dL_setMagazine_2 : decode cL_setMagazine 2 = .ok (.aload_n 0, 1) := by decide +kernel
theorem dL_setMagazine_3 : decode cL_setMagazine 3 = .ok (.iload_n 1, 1) := by decide +kernel
theorem dL_setMagazine_4 : decode cL_setMagazine 4 = .ok (.iload_n 2, 1) := by decide +kernel
theorem dL_setMagazine_5 : decode cL_setMagazine 5 = .ok (.invokevirtual 15, 3) := by decide +kernel
theorem dL_setMagazine_8 : decode cL_setMagazine 8 = .ok (.i2l, 1) := by decide +kernel
theorem dL_setMagazine_9 : decode cL_setMagazine 9 = .ok (.lastore, 1) := by decide +kernel
theorem dL_setMagazine_10 : decode cL_setMagazine 10 = .ok (.goto 15, 3) := by decide +kernel
theorem dL_setMagazine_13 : decode cL_setMagazine 13 = .ok (.astore 4, 2) := by decide +kernel
theorem dL_setMagazine_15 : decode cL_setMagazine 15 = .ok (.iconst 1, 1) := by decide +kernel
theorem dL_setMagazine_16 : decode cL_setMagazine 16 = .ok (.ireturn, 1) := by decide +kernel
theorem dL_setMagazine_17 : decode cL_setMagazine 17 = .ok (.astore 4, 2) := by decide +kernel
theorem dL_setMagazine_19 : decode cL_setMagazine 19 = .ok (.iconst 2, 1) := by decide +kernel
theorem dL_setMagazine_20 : decode cL_setMagazine 20 = .ok (.ireturn, 1) := by decide +kernel
theorem dL_setMagazine_21 : decode cL_setMagazine 21 = .ok (.astore 4, 2) := by decide +kernel
theorem dL_setMagazine_23 : decode cL_setMagazine 23 = .ok (.iconst 3, 1) := by decide +kernel
theorem dL_setMagazine_24 : decode cL_setMagazine 24 = .ok (.ireturn, 1) := by decide +kernel
theorem dL_setMagazine_25 : decode cL_setMagazine 25 = .ok (.iconst 0, 1) := by decide +kernel
theorem dL_setMagazine_26 : decode cL_setMagazine 26 = .ok (.ireturn, 1) := by decide +kernel
theorem dL_breakdown_0 : decode cL_breakdown 0 = .ok (.aload 4, 2) := by decide +kernel
theorem dL_breakdown_2 : decode cL_breakdown 2 = .ok (.iconst 0, 1) := by decide +kernel
theorem dL_breakdown_3 : decode cL_breakdown 3 = .ok (.aload_n 0, 1) := by decide +kernel
theorem dL_breakdown_4 : decode cL_breakdown 4 = .ok (.iload_n 1, 1) := by decide +kernel
theorem dL_breakdown_5 : decode cL_breakdown 5 = .ok (.iload_n 2, 1) := by decide +kernel
theorem dL_breakdown_6 : decode cL_breakdown 6 = .ok (.iload_n 3, 1) := by decide +kernel
theorem dL_breakdown_7 : decode cL_breakdown 7 = .ok (.invokevirtual 23, 3) := by decide +kernel
theorem dL_breakdown_10 : decode cL_breakdown 10 = .ok (.i2l, 1) := by decide +kernel
theorem dL_breakdown_11 : decode cL_breakdown 11 = .ok (.lastore, 1) := by decide +kernel
theorem dL_breakdown_12 : decode cL_breakdown 12 = .ok (.goto 11, 3) := by decide +kernel
theorem dL_breakdown_15 : decode cL_breakdown 15 = .ok (.astore 5, 2) := by decide +kernel
theorem dL_breakdown_17 : decode cL_breakdown 17 = .ok (.iconst 1, 1) := by decide +kernel
theorem dL_breakdown_18 : decode cL_breakdown 18 = .ok (.ireturn, 1) := by decide +kernel
theorem dL_breakdown_19 : decode cL_breakdown 19 = .ok (.astore 5, 2) := by decide +kernel
theorem dL_breakdown_21 : decode cL_breakdown 21 = .ok (.iconst 2, 1) := by decide +kernel
theorem dL_breakdown_22 : decode cL_breakdown 22 = .ok (.ireturn, 1) := by decide +kernel
theorem dL_breakdown_23 : decode cL_breakdown 23 = .ok (.iconst 0, 1) := by decide +kernel
theorem dL_breakdown_24 : decode cL_breakdown 24 = .ok (.ireturn, 1) := by decide +kernel
theorem dL_repair_0 : decode cL_repair 0 = .ok (.aload_n 2, 1) := by decide +kernel
theorem dL_repair_1 : decode cL_repair 1 = .ok (.iconst 0, 1) := by decide +kernel
theorem dL_repair_2 : decode cL_repair 2 = .ok (.aload_n 0, 1) := by decide +kernel
theorem dL_repair_3 : decode cL_repair 3 = .ok (.iload_n 1, 1) := by decide +kernel
theorem dL_repair_4 : decode cL_repair 4 = .ok (.invokevirtual 27, 3) := by decide +kernel
theorem dL_repair_7 : decode cL_repair 7 = .ok (.ifCond .eq 7, 3) := by decide +kernel
theorem dL_repair_10 : decode cL_repair 10 = .ok (.lconst 1, 1) := by decide +kernel
theorem dL_repair_11 : decode cL_repair 11 = .ok (.goto 4, 3) := by decide +kernel
theorem dL_repair_14 : decode cL_repair 14 = .ok (.lconst 0, 1) := by decide +kernel
theorem dL_repair_15 : decode cL_repair 15 = .ok (.lastore, 1) := by decide +kernel
theorem dL_repair_16 : decode cL_repair 16 = .ok (.goto 6, 3) := by decide +kernel
theorem dL_repair_19 : decode cL_repair 19 = .ok (.astore_n 3, 1) := by decide +kernel
theorem dL_repair_20 : decode cL_repair 20 = .ok (.iconst 1, 1) := by decide +kernel
theorem dL_repair_21 : decode cL_repair 21 = .ok (.ireturn, 1) := by decide +kernel
theorem dL_repair_22 : decode cL_repair 22 = .ok (.iconst 0, 1) := by decide +kernel
theorem dL_repair_23 : decode cL_repair 23 = .ok (.ireturn, 1) := by decide +kernel
theorem dL_addJob_0 : decode cL_addJob 0 = .ok (.aload_n 2, 1) := by decide +kernel
theorem dL_addJob_1 : decode cL_addJob 1 = .ok (.iconst 0, 1) := by decide +kernel
theorem dL_addJob_2 : decode cL_addJob 2 = .ok (.aload_n 0, 1) := by decide +kernel
theorem dL_addJob_3 : decode cL_addJob 3 = .ok (.iload_n 1, 1) := by decide +kernel
theorem dL_addJob_4 : decode cL_addJob 4 = .ok (.invokevirtual 31, 3) := by decide +kernel
theorem dL_addJob_7 : decode cL_addJob 7 = .ok (.i2l, 1) := by decide +kernel
theorem dL_addJob_8 : decode cL_addJob 8 = .ok (.lastore, 1) := by decide +kernel
theorem dL_addJob_9 : decode cL_addJob 9 = .ok (.goto 9, 3) := by decide +kernel
theorem dL_addJob_12 : decode cL_addJob 12 = .ok (.astore_n 3, 1) := by decide +kernel
theorem dL_addJob_13 : decode cL_addJob 13 = .ok (.iconst 1, 1) := by decide +kernel
theorem dL_addJob_14 : decode cL_addJob 14 = .ok (.ireturn, 1) := by decide +kernel
theorem dL_addJob_15 : decode cL_addJob 15 = .ok (.astore_n 3, 1) := by decide +kernel
theorem dL_addJob_16 : decode cL_addJob 16 = .ok (.iconst 2, 1) := by decide +kernel
theorem dL_addJob_17 : decode cL_addJob 17 = .ok (.ireturn, 1) := by decide +kernel
theorem dL_addJob_18 : decode cL_addJob 18 = .ok (.iconst 0, 1) := by decide +kernel
theorem dL_addJob_19 : decode cL_addJob 19 = .ok (.ireturn, 1) := by decide +kernel
theorem dL_addOperation_0 : decode cL_addOperation 0 = .ok (.aload 6, 2) := by decide +kernel
theorem dL_addOperation_2 : decode cL_addOperation 2 = .ok (.iconst 0, 1) := by decide +kernel
theorem dL_addOperation_3 : decode cL_addOperation 3 = .ok (.aload_n 0, 1) := by decide +kernel
theorem dL_addOperation_4 : decode cL_addOperation 4 = .ok (.iload_n 1, 1) := by decide +kernel
theorem dL_addOperation_5 : decode cL_addOperation 5 = .ok (.iload_n 2, 1) := by decide +kernel
theorem dL_addOperation_6 : decode cL_addOperation 6 = .ok (.iload_n 3, 1) := by decide +kernel
theorem dL_addOperation_7 : decode cL_addOperation 7 = .ok (.iload 4, 2) := by decide +kernel
theorem dL_addOperation_9 : decode cL_addOperation 9 = .ok (.iload 5, 2) := by decide +kernel
theorem dL_addOperation_11 : decode cL_addOperation 11 = .ok (.invokevirtual 35, 3) := by decide +kernel
theorem dL_addOperation_14 : decode cL_addOperation 14 = .ok (.i2l, 1) := by decide +kernel
theorem dL_addOperation_15 : decode cL_addOperation 15 = .ok (.lastore, 1) := by decide +kernel
theorem dL_addOperation_16 : decode cL_addOperation 16 = .ok (.goto 15, 3) := by decide +kernel
theorem dL_addOperation_19 : decode cL_addOperation 19 = .ok (.astore 7, 2) := by decide +kernel
theorem dL_addOperation_21 : decode cL_addOperation 21 = .ok (.iconst 1, 1) := by decide +kernel
theorem dL_addOperation_22 : decode cL_addOperation 22 = .ok (.ireturn, 1) := by decide +kernel
theorem dL_addOperation_23 : decode cL_addOperation 23 = .ok (.astore 7, 2) := by decide +kernel
theorem dL_addOperation_25 : decode cL_addOperation 25 = .ok (.iconst 2, 1) := by decide +kernel
theorem dL_addOperation_26 : decode cL_addOperation 26 = .ok (.ireturn, 1) := by decide +kernel
theorem dL_addOperation_27 : decode cL_addOperation 27 = .ok (.astore 7, 2) := by decide +kernel
theorem dL_addOperation_29 : decode cL_addOperation 29 = .ok (.iconst 3, 1) := by decide +kernel
theorem dL_addOperation_30 : decode cL_addOperation 30 = .ok (.ireturn, 1) := by decide +kernel
theorem dL_addOperation_31 : decode cL_addOperation 31 = .ok (.iconst 0, 1) := by decide +kernel
theorem dL_addOperation_32 : decode cL_addOperation 32 = .ok (.ireturn, 1) := by decide +kernel
theorem dL_setSetup_0 : decode cL_setSetup 0 = .ok (.aload 4, 2) := by decide +kernel
theorem dL_setSetup_2 : decode cL_setSetup 2 = .ok (.iconst 0, 1) := by decide +kernel
theorem dL_setSetup_3 : decode cL_setSetup 3 = .ok (.aload_n 0, 1) := by decide +kernel
theorem dL_setSetup_4 : decode cL_setSetup 4 = .ok (.iload_n 1, 1) := by decide +kernel
theorem dL_setSetup_5 : decode cL_setSetup 5 = .ok (.iload_n 2, 1) := by decide +kernel
theorem dL_setSetup_6 : decode cL_setSetup 6 = .ok (.iload_n 3, 1) := by decide +kernel
theorem dL_setSetup_7 : decode cL_setSetup 7 = .ok (.invokevirtual 39, 3) := by decide +kernel
theorem dL_setSetup_10 : decode cL_setSetup 10 = .ok (.i2l, 1) := by decide +kernel
theorem dL_setSetup_11 : decode cL_setSetup 11 = .ok (.lastore, 1) := by decide +kernel
theorem dL_setSetup_12 : decode cL_setSetup 12 = .ok (.goto 11, 3) := by decide +kernel
theorem dL_setSetup_15 : decode cL_setSetup 15 = .ok (.astore 5, 2) := by decide +kernel
theorem dL_setSetup_17 : decode cL_setSetup 17 = .ok (.iconst 1, 1) := by decide +kernel
theorem dL_setSetup_18 : decode cL_setSetup 18 = .ok (.ireturn, 1) := by decide +kernel
theorem dL_setSetup_19 : decode cL_setSetup 19 = .ok (.astore 5, 2) := by decide +kernel
theorem dL_setSetup_21 : decode cL_setSetup 21 = .ok (.iconst 2, 1) := by decide +kernel
theorem dL_setSetup_22 : decode cL_setSetup 22 = .ok (.ireturn, 1) := by decide +kernel
theorem dL_setSetup_23 : decode cL_setSetup 23 = .ok (.iconst 0, 1) := by decide +kernel
theorem dL_setSetup_24 : decode cL_setSetup 24 = .ok (.ireturn, 1) := by decide +kernel
theorem dL_place_0 : decode cL_place 0 = .ok (.aload_n 2, 1) := by decide +kernel
theorem dL_place_1 : decode cL_place 1 = .ok (.iconst 0, 1) := by decide +kernel
theorem dL_place_2 : decode cL_place 2 = .ok (.aload_n 0, 1) := by decide +kernel
theorem dL_place_3 : decode cL_place 3 = .ok (.iload_n 1, 1) := by decide +kernel
theorem dL_place_4 : decode cL_place 4 = .ok (.invokevirtual 42, 3) := by decide +kernel
theorem dL_place_7 : decode cL_place 7 = .ok (.i2l, 1) := by decide +kernel
theorem dL_place_8 : decode cL_place 8 = .ok (.lastore, 1) := by decide +kernel
theorem dL_place_9 : decode cL_place 9 = .ok (.goto 9, 3) := by decide +kernel
theorem dL_place_12 : decode cL_place 12 = .ok (.astore_n 3, 1) := by decide +kernel
theorem dL_place_13 : decode cL_place 13 = .ok (.iconst 1, 1) := by decide +kernel
theorem dL_place_14 : decode cL_place 14 = .ok (.ireturn, 1) := by decide +kernel
theorem dL_place_15 : decode cL_place 15 = .ok (.astore_n 3, 1) := by decide +kernel
theorem dL_place_16 : decode cL_place 16 = .ok (.iconst 2, 1) := by decide +kernel
theorem dL_place_17 : decode cL_place 17 = .ok (.ireturn, 1) := by decide +kernel
theorem dL_place_18 : decode cL_place 18 = .ok (.iconst 0, 1) := by decide +kernel
theorem dL_place_19 : decode cL_place 19 = .ok (.ireturn, 1) := by decide +kernel
theorem dL_rush_0 : decode cL_rush 0 = .ok (.aload_n 2, 1) := by decide +kernel
theorem dL_rush_1 : decode cL_rush 1 = .ok (.iconst 0, 1) := by decide +kernel
theorem dL_rush_2 : decode cL_rush 2 = .ok (.aload_n 0, 1) := by decide +kernel
theorem dL_rush_3 : decode cL_rush 3 = .ok (.iload_n 1, 1) := by decide +kernel
theorem dL_rush_4 : decode cL_rush 4 = .ok (.invokevirtual 45, 3) := by decide +kernel
theorem dL_rush_7 : decode cL_rush 7 = .ok (.i2l, 1) := by decide +kernel
theorem dL_rush_8 : decode cL_rush 8 = .ok (.lastore, 1) := by decide +kernel
theorem dL_rush_9 : decode cL_rush 9 = .ok (.goto 9, 3) := by decide +kernel
theorem dL_rush_12 : decode cL_rush 12 = .ok (.astore_n 3, 1) := by decide +kernel
theorem dL_rush_13 : decode cL_rush 13 = .ok (.iconst 1, 1) := by decide +kernel
theorem dL_rush_14 : decode cL_rush 14 = .ok (.ireturn, 1) := by decide +kernel
theorem dL_rush_15 : decode cL_rush 15 = .ok (.astore_n 3, 1) := by decide +kernel
theorem dL_rush_16 : decode cL_rush 16 = .ok (.iconst 2, 1) := by decide +kernel
theorem dL_rush_17 : decode cL_rush 17 = .ok (.ireturn, 1) := by decide +kernel
theorem dL_rush_18 : decode cL_rush 18 = .ok (.iconst 0, 1) := by decide +kernel
theorem dL_rush_19 : decode cL_rush 19 = .ok (.ireturn, 1) := by decide +kernel
theorem dL_remove_0 : decode cL_remove 0 = .ok (.aload_n 2, 1) := by decide +kernel
theorem dL_remove_1 : decode cL_remove 1 = .ok (.iconst 0, 1) := by decide +kernel
theorem dL_remove_2 : decode cL_remove 2 = .ok (.aload_n 0, 1) := by decide +kernel
theorem dL_remove_3 : decode cL_remove 3 = .ok (.iload_n 1, 1) := by decide +kernel
theorem dL_remove_4 : decode cL_remove 4 = .ok (.invokevirtual 48, 3) := by decide +kernel
theorem dL_remove_7 : decode cL_remove 7 = .ok (.i2l, 1) := by decide +kernel
theorem dL_remove_8 : decode cL_remove 8 = .ok (.lastore, 1) := by decide +kernel
theorem dL_remove_9 : decode cL_remove 9 = .ok (.goto 9, 3) := by decide +kernel
theorem dL_remove_12 : decode cL_remove 12 = .ok (.astore_n 3, 1) := by decide +kernel
theorem dL_remove_13 : decode cL_remove 13 = .ok (.iconst 1, 1) := by decide +kernel
theorem dL_remove_14 : decode cL_remove 14 = .ok (.ireturn, 1) := by decide +kernel
theorem dL_remove_15 : decode cL_remove 15 = .ok (.astore_n 3, 1) := by decide +kernel
theorem dL_remove_16 : decode cL_remove 16 = .ok (.iconst 2, 1) := by decide +kernel
theorem dL_remove_17 : decode cL_remove 17 = .ok (.ireturn, 1) := by decide +kernel
theorem dL_remove_18 : decode cL_remove 18 = .ok (.iconst 0, 1) := by decide +kernel
theorem dL_remove_19 : decode cL_remove 19 = .ok (.ireturn, 1) := by decide +kernel
theorem dL_swap_0 : decode cL_swap 0 = .ok (.aload_n 3, 1) := by decide +kernel
theorem dL_swap_1 : decode cL_swap 1 = .ok (.iconst 0, 1) := by decide +kernel
theorem dL_swap_2 : decode cL_swap 2 = .ok (.aload_n 0, 1) := by decide +kernel
theorem dL_swap_3 : decode cL_swap 3 = .ok (.iload_n 1, 1) := by decide +kernel
theorem dL_swap_4 : decode cL_swap 4 = .ok (.iload_n 2, 1) := by decide +kernel
theorem dL_swap_5 : decode cL_swap 5 = .ok (.invokevirtual 51, 3) := by decide +kernel
theorem dL_swap_8 : decode cL_swap 8 = .ok (.i2l, 1) := by decide +kernel
theorem dL_swap_9 : decode cL_swap 9 = .ok (.lastore, 1) := by decide +kernel
theorem dL_swap_10 : decode cL_swap 10 = .ok (.goto 11, 3) := by decide +kernel
theorem dL_swap_13 : decode cL_swap 13 = .ok (.astore 4, 2) := by decide +kernel
theorem dL_swap_15 : decode cL_swap 15 = .ok (.iconst 1, 1) := by decide +kernel
theorem dL_swap_16 : decode cL_swap 16 = .ok (.ireturn, 1) := by decide +kernel
theorem dL_swap_17 : decode cL_swap 17 = .ok (.astore 4, 2) := by decide +kernel
theorem dL_swap_19 : decode cL_swap 19 = .ok (.iconst 2, 1) := by decide +kernel
theorem dL_swap_20 : decode cL_swap 20 = .ok (.ireturn, 1) := by decide +kernel
theorem dL_swap_21 : decode cL_swap 21 = .ok (.iconst 0, 1) := by decide +kernel
theorem dL_swap_22 : decode cL_swap 22 = .ok (.ireturn, 1) := by decide +kernel
theorem dL_placed_0 : decode cL_placed 0 = .ok (.aload_n 2, 1) := by decide +kernel
theorem dL_placed_1 : decode cL_placed 1 = .ok (.iconst 0, 1) := by decide +kernel
theorem dL_placed_2 : decode cL_placed 2 = .ok (.aload_n 0, 1) := by decide +kernel
theorem dL_placed_3 : decode cL_placed 3 = .ok (.iload_n 1, 1) := by decide +kernel
theorem dL_placed_4 : decode cL_placed 4 = .ok (.invokevirtual 54, 3) := by decide +kernel
theorem dL_placed_7 : decode cL_placed 7 = .ok (.i2l, 1) := by decide +kernel
theorem dL_placed_8 : decode cL_placed 8 = .ok (.lastore, 1) := by decide +kernel
theorem dL_placed_9 : decode cL_placed 9 = .ok (.goto 6, 3) := by decide +kernel
theorem dL_placed_12 : decode cL_placed 12 = .ok (.astore_n 3, 1) := by decide +kernel
theorem dL_placed_13 : decode cL_placed 13 = .ok (.iconst 1, 1) := by decide +kernel
theorem dL_placed_14 : decode cL_placed 14 = .ok (.ireturn, 1) := by decide +kernel
theorem dL_placed_15 : decode cL_placed 15 = .ok (.iconst 0, 1) := by decide +kernel
theorem dL_placed_16 : decode cL_placed 16 = .ok (.ireturn, 1) := by decide +kernel
theorem dL_placedAt_0 : decode cL_placedAt 0 = .ok (.aload_n 3, 1) := by decide +kernel
theorem dL_placedAt_1 : decode cL_placedAt 1 = .ok (.iconst 0, 1) := by decide +kernel
theorem dL_placedAt_2 : decode cL_placedAt 2 = .ok (.aload_n 0, 1) := by decide +kernel
theorem dL_placedAt_3 : decode cL_placedAt 3 = .ok (.iload_n 1, 1) := by decide +kernel
theorem dL_placedAt_4 : decode cL_placedAt 4 = .ok (.iload_n 2, 1) := by decide +kernel
theorem dL_placedAt_5 : decode cL_placedAt 5 = .ok (.invokevirtual 57, 3) := by decide +kernel
theorem dL_placedAt_8 : decode cL_placedAt 8 = .ok (.i2l, 1) := by decide +kernel
theorem dL_placedAt_9 : decode cL_placedAt 9 = .ok (.lastore, 1) := by decide +kernel
theorem dL_placedAt_10 : decode cL_placedAt 10 = .ok (.goto 7, 3) := by decide +kernel
theorem dL_placedAt_13 : decode cL_placedAt 13 = .ok (.astore 4, 2) := by decide +kernel
theorem dL_placedAt_15 : decode cL_placedAt 15 = .ok (.iconst 1, 1) := by decide +kernel
theorem dL_placedAt_16 : decode cL_placedAt 16 = .ok (.ireturn, 1) := by decide +kernel
theorem dL_placedAt_17 : decode cL_placedAt 17 = .ok (.iconst 0, 1) := by decide +kernel
theorem dL_placedAt_18 : decode cL_placedAt 18 = .ok (.ireturn, 1) := by decide +kernel
theorem dL_startOf_0 : decode cL_startOf 0 = .ok (.aload_n 3, 1) := by decide +kernel
theorem dL_startOf_1 : decode cL_startOf 1 = .ok (.iconst 0, 1) := by decide +kernel
theorem dL_startOf_2 : decode cL_startOf 2 = .ok (.aload_n 0, 1) := by decide +kernel
theorem dL_startOf_3 : decode cL_startOf 3 = .ok (.iload_n 1, 1) := by decide +kernel
theorem dL_startOf_4 : decode cL_startOf 4 = .ok (.iload_n 2, 1) := by decide +kernel
theorem dL_startOf_5 : decode cL_startOf 5 = .ok (.invokevirtual 60, 3) := by decide +kernel
theorem dL_startOf_8 : decode cL_startOf 8 = .ok (.i2l, 1) := by decide +kernel
theorem dL_startOf_9 : decode cL_startOf 9 = .ok (.lastore, 1) := by decide +kernel
theorem dL_startOf_10 : decode cL_startOf 10 = .ok (.goto 11, 3) := by decide +kernel
theorem dL_startOf_13 : decode cL_startOf 13 = .ok (.astore 4, 2) := by decide +kernel
theorem dL_startOf_15 : decode cL_startOf 15 = .ok (.iconst 1, 1) := by decide +kernel
theorem dL_startOf_16 : decode cL_startOf 16 = .ok (.ireturn, 1) := by decide +kernel
theorem dL_startOf_17 : decode cL_startOf 17 = .ok (.astore 4, 2) := by decide +kernel
theorem dL_startOf_19 : decode cL_startOf 19 = .ok (.iconst 2, 1) := by decide +kernel
theorem dL_startOf_20 : decode cL_startOf 20 = .ok (.ireturn, 1) := by decide +kernel
theorem dL_startOf_21 : decode cL_startOf 21 = .ok (.iconst 0, 1) := by decide +kernel
theorem dL_startOf_22 : decode cL_startOf 22 = .ok (.ireturn, 1) := by decide +kernel
theorem dL_startByRounds_0 : decode cL_startByRounds 0 = .ok (.aload_n 3, 1) := by decide +kernel
theorem dL_startByRounds_1 : decode cL_startByRounds 1 = .ok (.iconst 0, 1) := by decide +kernel
theorem dL_startByRounds_2 : decode cL_startByRounds 2 = .ok (.aload_n 0, 1) := by decide +kernel
theorem dL_startByRounds_3 : decode cL_startByRounds 3 = .ok (.iload_n 1, 1) := by decide +kernel
theorem dL_startByRounds_4 : decode cL_startByRounds 4 = .ok (.iload_n 2, 1) := by decide +kernel
theorem dL_startByRounds_5 : decode cL_startByRounds 5 = .ok (.invokevirtual 63, 3) := by decide +kernel
theorem dL_startByRounds_8 : decode cL_startByRounds 8 = .ok (.i2l, 1) := by decide +kernel
theorem dL_startByRounds_9 : decode cL_startByRounds 9 = .ok (.lastore, 1) := by decide +kernel
theorem dL_startByRounds_10 : decode cL_startByRounds 10 = .ok (.goto 11, 3) := by decide +kernel
theorem dL_startByRounds_13 : decode cL_startByRounds 13 = .ok (.astore 4, 2) := by decide +kernel
theorem dL_startByRounds_15 : decode cL_startByRounds 15 = .ok (.iconst 1, 1) := by decide +kernel
theorem dL_startByRounds_16 : decode cL_startByRounds 16 = .ok (.ireturn, 1) := by decide +kernel
theorem dL_startByRounds_17 : decode cL_startByRounds 17 = .ok (.astore 4, 2) := by decide +kernel
theorem dL_startByRounds_19 : decode cL_startByRounds 19 = .ok (.iconst 2, 1) := by decide +kernel
theorem dL_startByRounds_20 : decode cL_startByRounds 20 = .ok (.ireturn, 1) := by decide +kernel
theorem dL_startByRounds_21 : decode cL_startByRounds 21 = .ok (.iconst 0, 1) := by decide +kernel
theorem dL_startByRounds_22 : decode cL_startByRounds 22 = .ok (.ireturn, 1) := by decide +kernel
theorem dL_lateness_0 : decode cL_lateness 0 = .ok (.aload_n 2, 1) := by decide +kernel
theorem dL_lateness_1 : decode cL_lateness 1 = .ok (.iconst 0, 1) := by decide +kernel
theorem dL_lateness_2 : decode cL_lateness 2 = .ok (.aload_n 0, 1) := by decide +kernel
theorem dL_lateness_3 : decode cL_lateness 3 = .ok (.iload_n 1, 1) := by decide +kernel
theorem dL_lateness_4 : decode cL_lateness 4 = .ok (.invokevirtual 66, 3) := by decide +kernel
theorem dL_lateness_7 : decode cL_lateness 7 = .ok (.i2l, 1) := by decide +kernel
theorem dL_lateness_8 : decode cL_lateness 8 = .ok (.lastore, 1) := by decide +kernel
theorem dL_lateness_9 : decode cL_lateness 9 = .ok (.goto 9, 3) := by decide +kernel
theorem dL_lateness_12 : decode cL_lateness 12 = .ok (.astore_n 3, 1) := by decide +kernel
theorem dL_lateness_13 : decode cL_lateness 13 = .ok (.iconst 1, 1) := by decide +kernel
theorem dL_lateness_14 : decode cL_lateness 14 = .ok (.ireturn, 1) := by decide +kernel
theorem dL_lateness_15 : decode cL_lateness 15 = .ok (.astore_n 3, 1) := by decide +kernel
theorem dL_lateness_16 : decode cL_lateness 16 = .ok (.iconst 2, 1) := by decide +kernel
theorem dL_lateness_17 : decode cL_lateness 17 = .ok (.ireturn, 1) := by decide +kernel
theorem dL_lateness_18 : decode cL_lateness 18 = .ok (.iconst 0, 1) := by decide +kernel
theorem dL_lateness_19 : decode cL_lateness 19 = .ok (.ireturn, 1) := by decide +kernel
theorem dL_slack_0 : decode cL_slack 0 = .ok (.aload_n 3, 1) := by decide +kernel
theorem dL_slack_1 : decode cL_slack 1 = .ok (.iconst 0, 1) := by decide +kernel
theorem dL_slack_2 : decode cL_slack 2 = .ok (.aload_n 0, 1) := by decide +kernel
theorem dL_slack_3 : decode cL_slack 3 = .ok (.iload_n 1, 1) := by decide +kernel
theorem dL_slack_4 : decode cL_slack 4 = .ok (.iload_n 2, 1) := by decide +kernel
theorem dL_slack_5 : decode cL_slack 5 = .ok (.invokevirtual 69, 3) := by decide +kernel
theorem dL_slack_8 : decode cL_slack 8 = .ok (.i2l, 1) := by decide +kernel
theorem dL_slack_9 : decode cL_slack 9 = .ok (.lastore, 1) := by decide +kernel
theorem dL_slack_10 : decode cL_slack 10 = .ok (.goto 11, 3) := by decide +kernel
theorem dL_slack_13 : decode cL_slack 13 = .ok (.astore 4, 2) := by decide +kernel
theorem dL_slack_15 : decode cL_slack 15 = .ok (.iconst 1, 1) := by decide +kernel
theorem dL_slack_16 : decode cL_slack 16 = .ok (.ireturn, 1) := by decide +kernel
theorem dL_slack_17 : decode cL_slack 17 = .ok (.astore 4, 2) := by decide +kernel
theorem dL_slack_19 : decode cL_slack 19 = .ok (.iconst 2, 1) := by decide +kernel
theorem dL_slack_20 : decode cL_slack 20 = .ok (.ireturn, 1) := by decide +kernel
theorem dL_slack_21 : decode cL_slack 21 = .ok (.iconst 0, 1) := by decide +kernel
theorem dL_slack_22 : decode cL_slack 22 = .ok (.ireturn, 1) := by decide +kernel
theorem dL_criticalAt_0 : decode cL_criticalAt 0 = .ok (.aload_n 2, 1) := by decide +kernel
theorem dL_criticalAt_1 : decode cL_criticalAt 1 = .ok (.iconst 0, 1) := by decide +kernel
theorem dL_criticalAt_2 : decode cL_criticalAt 2 = .ok (.aload_n 0, 1) := by decide +kernel
theorem dL_criticalAt_3 : decode cL_criticalAt 3 = .ok (.iload_n 1, 1) := by decide +kernel
theorem dL_criticalAt_4 : decode cL_criticalAt 4 = .ok (.invokevirtual 72, 3) := by decide +kernel
theorem dL_criticalAt_7 : decode cL_criticalAt 7 = .ok (.i2l, 1) := by decide +kernel
theorem dL_criticalAt_8 : decode cL_criticalAt 8 = .ok (.lastore, 1) := by decide +kernel
theorem dL_criticalAt_9 : decode cL_criticalAt 9 = .ok (.goto 6, 3) := by decide +kernel
theorem dL_criticalAt_12 : decode cL_criticalAt 12 = .ok (.astore_n 3, 1) := by decide +kernel
theorem dL_criticalAt_13 : decode cL_criticalAt 13 = .ok (.iconst 1, 1) := by decide +kernel
theorem dL_criticalAt_14 : decode cL_criticalAt 14 = .ok (.ireturn, 1) := by decide +kernel
theorem dL_criticalAt_15 : decode cL_criticalAt 15 = .ok (.iconst 0, 1) := by decide +kernel
theorem dL_criticalAt_16 : decode cL_criticalAt 16 = .ok (.ireturn, 1) := by decide +kernel
theorem dL_setups_0 : decode cL_setups 0 = .ok (.aload_n 2, 1) := by decide +kernel
theorem dL_setups_1 : decode cL_setups 1 = .ok (.iconst 0, 1) := by decide +kernel
theorem dL_setups_2 : decode cL_setups 2 = .ok (.aload_n 0, 1) := by decide +kernel
theorem dL_setups_3 : decode cL_setups 3 = .ok (.iload_n 1, 1) := by decide +kernel
theorem dL_setups_4 : decode cL_setups 4 = .ok (.invokevirtual 75, 3) := by decide +kernel
theorem dL_setups_7 : decode cL_setups 7 = .ok (.i2l, 1) := by decide +kernel
theorem dL_setups_8 : decode cL_setups 8 = .ok (.lastore, 1) := by decide +kernel
theorem dL_setups_9 : decode cL_setups 9 = .ok (.goto 6, 3) := by decide +kernel
theorem dL_setups_12 : decode cL_setups 12 = .ok (.astore_n 3, 1) := by decide +kernel
theorem dL_setups_13 : decode cL_setups 13 = .ok (.iconst 1, 1) := by decide +kernel
theorem dL_setups_14 : decode cL_setups 14 = .ok (.ireturn, 1) := by decide +kernel
theorem dL_setups_15 : decode cL_setups 15 = .ok (.iconst 0, 1) := by decide +kernel
theorem dL_setups_16 : decode cL_setups 16 = .ok (.ireturn, 1) := by decide +kernel
theorem dL_loads_0 : decode cL_loads 0 = .ok (.aload_n 2, 1) := by decide +kernel
theorem dL_loads_1 : decode cL_loads 1 = .ok (.iconst 0, 1) := by decide +kernel
theorem dL_loads_2 : decode cL_loads 2 = .ok (.aload_n 0, 1) := by decide +kernel
theorem dL_loads_3 : decode cL_loads 3 = .ok (.iload_n 1, 1) := by decide +kernel
theorem dL_loads_4 : decode cL_loads 4 = .ok (.invokevirtual 78, 3) := by decide +kernel
theorem dL_loads_7 : decode cL_loads 7 = .ok (.i2l, 1) := by decide +kernel
theorem dL_loads_8 : decode cL_loads 8 = .ok (.lastore, 1) := by decide +kernel
theorem dL_loads_9 : decode cL_loads 9 = .ok (.goto 6, 3) := by decide +kernel
theorem dL_loads_12 : decode cL_loads 12 = .ok (.astore_n 3, 1) := by decide +kernel
theorem dL_loads_13 : decode cL_loads 13 = .ok (.iconst 1, 1) := by decide +kernel
theorem dL_loads_14 : decode cL_loads 14 = .ok (.ireturn, 1) := by decide +kernel
theorem dL_loads_15 : decode cL_loads 15 = .ok (.iconst 0, 1) := by decide +kernel
theorem dL_loads_16 : decode cL_loads 16 = .ok (.ireturn, 1) := by decide +kernel
theorem dL_law_0 : decode cL_law 0 = .ok (.new 8, 3) := by decide +kernel
theorem dL_law_3 : decode cL_law 3 = .ok (.dup, 1) := by decide +kernel
theorem dL_law_4 : decode cL_law 4 = .ok (.invokespecial 81, 3) := by decide +kernel
theorem dL_law_7 : decode cL_law 7 = .ok (.astore_n 1, 1) := by decide +kernel
theorem dL_law_8 : decode cL_law 8 = .ok (.new 82, 3) := by decide +kernel
theorem dL_law_11 : decode cL_law 11 = .ok (.dup, 1) := by decide +kernel
theorem dL_law_12 : decode cL_law 12 = .ok (.invokespecial 84, 3) := by decide +kernel
theorem dL_law_15 : decode cL_law 15 = .ok (.astore_n 2, 1) := by decide +kernel
theorem dL_law_16 : decode cL_law 16 = .ok (.iconst 1, 1) := by decide +kernel
theorem dL_law_17 : decode cL_law 17 = .ok (.newarray .long, 2) := by decide +kernel
theorem dL_law_19 : decode cL_law 19 = .ok (.astore_n 3, 1) := by decide +kernel
theorem dL_law_20 : decode cL_law 20 = .ok (.iconst 0, 1) := by decide +kernel
theorem dL_law_21 : decode cL_law 21 = .ok (.istore 4, 2) := by decide +kernel
theorem dL_law_23 : decode cL_law 23 = .ok (.iload 4, 2) := by decide +kernel
theorem dL_law_25 : decode cL_law 25 = .ok (.aload_n 0, 1) := by decide +kernel
theorem dL_law_26 : decode cL_law 26 = .ok (.arraylength, 1) := by decide +kernel
theorem dL_law_27 : decode cL_law 27 = .ok (.bipush 6, 2) := by decide +kernel
theorem dL_law_29 : decode cL_law 29 = .ok (.isub, 1) := by decide +kernel
theorem dL_law_30 : decode cL_law 30 = .ok (.if_icmp .gt 1429, 3) := by decide +kernel
theorem dL_law_33 : decode cL_law 33 = .ok (.aload_n 0, 1) := by decide +kernel
theorem dL_law_34 : decode cL_law 34 = .ok (.iload 4, 2) := by decide +kernel
theorem dL_law_36 : decode cL_law 36 = .ok (.iaload, 1) := by decide +kernel
theorem dL_law_37 : decode cL_law 37 = .ok (.bipush 31, 2) := by decide +kernel
theorem dL_law_39 : decode cL_law 39 = .ok (.iand, 1) := by decide +kernel
theorem dL_law_40 : decode cL_law 40 = .ok (.tableswitch 1413 0 21 #[104, 148, 216, 296, 359, 415, 519, 599, 655, 711, 767, 835, 891, 959, 1027, 1095, 1151, 1164, 1232, 1245, 1301, 1357], 104) := by decide +kernel
theorem dL_law_144 : decode cL_law 144 = .ok (.aload_n 1, 1) := by decide +kernel
theorem dL_law_145 : decode cL_law 145 = .ok (.aload_n 3, 1) := by decide +kernel
theorem dL_law_146 : decode cL_law 146 = .ok (.invokestatic 85, 3) := by decide +kernel
theorem dL_law_149 : decode cL_law 149 = .ok (.istore 5, 2) := by decide +kernel
theorem dL_law_151 : decode cL_law 151 = .ok (.aload_n 2, 1) := by decide +kernel
theorem dL_law_152 : decode cL_law 152 = .ok (.invokevirtual 90, 3) := by decide +kernel
theorem dL_law_155 : decode cL_law 155 = .ok (.istore 6, 2) := by decide +kernel
theorem dL_law_157 : decode cL_law 157 = .ok (.aload_n 2, 1) := by decide +kernel
theorem dL_law_158 : decode cL_law 158 = .ok (.invokevirtual 91, 3) := by decide +kernel
theorem dL_law_161 : decode cL_law 161 = .ok (.iload 5, 2) := by decide +kernel
theorem dL_law_163 : decode cL_law 163 = .ok (.if_icmp .eq 5, 3) := by decide +kernel
theorem dL_law_166 : decode cL_law 166 = .ok (.iconst 0, 1) := by decide +kernel
theorem dL_law_167 : decode cL_law 167 = .ok (.ireturn, 1) := by decide +kernel
theorem dL_law_168 : decode cL_law 168 = .ok (.iload 5, 2) := by decide +kernel
theorem dL_law_170 : decode cL_law 170 = .ok (.ifCond .ne 15, 3) := by decide +kernel
theorem dL_law_173 : decode cL_law 173 = .ok (.aload_n 3, 1) := by decide +kernel
theorem dL_law_174 : decode cL_law 174 = .ok (.iconst 0, 1) := by decide +kernel
theorem dL_law_175 : decode cL_law 175 = .ok (.laload, 1) := by decide +kernel
theorem dL_law_176 : decode cL_law 176 = .ok (.iload 6, 2) := by decide +kernel
theorem dL_law_178 : decode cL_law 178 = .ok (.i2l, 1) := by decide +kernel
theorem dL_law_179 : decode cL_law 179 = .ok (.lcmp, 1) := by decide +kernel
theorem dL_law_180 : decode cL_law 180 = .ok (.ifCond .eq 5, 3) := by decide +kernel
theorem dL_law_183 : decode cL_law 183 = .ok (.iconst 0, 1) := by decide +kernel
theorem dL_law_184 : decode cL_law 184 = .ok (.ireturn, 1) := by decide +kernel
theorem dL_law_185 : decode cL_law 185 = .ok (.goto 1268, 3) := by decide +kernel
theorem dL_law_188 : decode cL_law 188 = .ok (.aload_n 1, 1) := by decide +kernel
theorem dL_law_189 : decode cL_law 189 = .ok (.aload_n 0, 1) := by decide +kernel
theorem dL_law_190 : decode cL_law 190 = .ok (.iload 4, 2) := by decide +kernel
theorem dL_law_192 : decode cL_law 192 = .ok (.iconst 1, 1) := by decide +kernel
theorem dL_law_193 : decode cL_law 193 = .ok (.iadd, 1) := by decide +kernel
theorem dL_law_194 : decode cL_law 194 = .ok (.iaload, 1) := by decide +kernel
theorem dL_law_195 : decode cL_law 195 = .ok (.aload_n 0, 1) := by decide +kernel
theorem dL_law_196 : decode cL_law 196 = .ok (.iload 4, 2) := by decide +kernel
theorem dL_law_198 : decode cL_law 198 = .ok (.iconst 2, 1) := by decide +kernel
theorem dL_law_199 : decode cL_law 199 = .ok (.iadd, 1) := by decide +kernel
theorem dL_law_200 : decode cL_law 200 = .ok (.iaload, 1) := by decide +kernel
theorem dL_law_201 : decode cL_law 201 = .ok (.aload_n 3, 1) := by decide +kernel
theorem dL_law_202 : decode cL_law 202 = .ok (.invokestatic 94, 3) := by decide +kernel
theorem dL_law_205 : decode cL_law 205 = .ok (.istore 5, 2) := by decide +kernel
theorem dL_law_207 : decode cL_law 207 = .ok (.aload_n 2, 1) := by decide +kernel
theorem dL_law_208 : decode cL_law 208 = .ok (.aload_n 0, 1) := by decide +kernel
theorem dL_law_209 : decode cL_law 209 = .ok (.iload 4, 2) := by decide +kernel
theorem dL_law_211 : decode cL_law 211 = .ok (.iconst 1, 1) := by decide +kernel
theorem dL_law_212 : decode cL_law 212 = .ok (.iadd, 1) := by decide +kernel
theorem dL_law_213 : decode cL_law 213 = .ok (.iaload, 1) := by decide +kernel
theorem dL_law_214 : decode cL_law 214 = .ok (.aload_n 0, 1) := by decide +kernel
theorem dL_law_215 : decode cL_law 215 = .ok (.iload 4, 2) := by decide +kernel
theorem dL_law_217 : decode cL_law 217 = .ok (.iconst 2, 1) := by decide +kernel
theorem dL_law_218 : decode cL_law 218 = .ok (.iadd, 1) := by decide +kernel
theorem dL_law_219 : decode cL_law 219 = .ok (.iaload, 1) := by decide +kernel
theorem dL_law_220 : decode cL_law 220 = .ok (.invokevirtual 97, 3) := by decide +kernel
theorem dL_law_223 : decode cL_law 223 = .ok (.istore 6, 2) := by decide +kernel
theorem dL_law_225 : decode cL_law 225 = .ok (.aload_n 2, 1) := by decide +kernel
theorem dL_law_226 : decode cL_law 226 = .ok (.invokevirtual 91, 3) := by decide +kernel
theorem dL_law_229 : decode cL_law 229 = .ok (.iload 5, 2) := by decide +kernel
theorem dL_law_231 : decode cL_law 231 = .ok (.if_icmp .eq 5, 3) := by decide +kernel
theorem dL_law_234 : decode cL_law 234 = .ok (.iconst 0, 1) := by decide +kernel
theorem dL_law_235 : decode cL_law 235 = .ok (.ireturn, 1) := by decide +kernel
theorem dL_law_236 : decode cL_law 236 = .ok (.iload 5, 2) := by decide +kernel
theorem dL_law_238 : decode cL_law 238 = .ok (.ifCond .ne 15, 3) := by decide +kernel
theorem dL_law_241 : decode cL_law 241 = .ok (.aload_n 3, 1) := by decide +kernel
theorem dL_law_242 : decode cL_law 242 = .ok (.iconst 0, 1) := by decide +kernel
theorem dL_law_243 : decode cL_law 243 = .ok (.laload, 1) := by decide +kernel
theorem dL_law_244 : decode cL_law 244 = .ok (.iload 6, 2) := by decide +kernel
theorem dL_law_246 : decode cL_law 246 = .ok (.i2l, 1) := by decide +kernel
theorem dL_law_247 : decode cL_law 247 = .ok (.lcmp, 1) := by decide +kernel
theorem dL_law_248 : decode cL_law 248 = .ok (.ifCond .eq 5, 3) := by decide +kernel
theorem dL_law_251 : decode cL_law 251 = .ok (.iconst 0, 1) := by decide +kernel
theorem dL_law_252 : decode cL_law 252 = .ok (.ireturn, 1) := by decide +kernel
theorem dL_law_253 : decode cL_law 253 = .ok (.goto 1200, 3) := by decide +kernel
theorem dL_law_256 : decode cL_law 256 = .ok (.aload_n 1, 1) := by decide +kernel
theorem dL_law_257 : decode cL_law 257 = .ok (.aload_n 0, 1) := by decide +kernel
theorem dL_law_258 : decode cL_law 258 = .ok (.iload 4, 2) := by decide +kernel
theorem dL_law_260 : decode cL_law 260 = .ok (.iconst 1, 1) := by decide +kernel
theorem dL_law_261 : decode cL_law 261 = .ok (.iadd, 1) := by decide +kernel
theorem dL_law_262 : decode cL_law 262 = .ok (.iaload, 1) := by decide +kernel
theorem dL_law_263 : decode cL_law 263 = .ok (.aload_n 0, 1) := by decide +kernel
theorem dL_law_264 : decode cL_law 264 = .ok (.iload 4, 2) := by decide +kernel
theorem dL_law_266 : decode cL_law 266 = .ok (.iconst 2, 1) := by decide +kernel
theorem dL_law_267 : decode cL_law 267 = .ok (.iadd, 1) := by decide +kernel
theorem dL_law_268 : decode cL_law 268 = .ok (.iaload, 1) := by decide +kernel
theorem dL_law_269 : decode cL_law 269 = .ok (.aload_n 0, 1) := by decide +kernel
theorem dL_law_270 : decode cL_law 270 = .ok (.iload 4, 2) := by decide +kernel
theorem dL_law_272 : decode cL_law 272 = .ok (.iconst 3, 1) := by decide +kernel
theorem dL_law_273 : decode cL_law 273 = .ok (.iadd, 1) := by decide +kernel
theorem dL_law_274 : decode cL_law 274 = .ok (.iaload, 1) := by decide +kernel
theorem dL_law_275 : decode cL_law 275 = .ok (.aload_n 3, 1) := by decide +kernel
theorem dL_law_276 : decode cL_law 276 = .ok (.invokestatic 98, 3) := by decide +kernel
theorem dL_law_279 : decode cL_law 279 = .ok (.istore 5, 2) := by decide +kernel
theorem dL_law_281 : decode cL_law 281 = .ok (.aload_n 2, 1) := by decide +kernel
theorem dL_law_282 : decode cL_law 282 = .ok (.aload_n 0, 1) := by decide +kernel
theorem dL_law_283 : decode cL_law 283 = .ok (.iload 4, 2) := by decide +kernel
theorem dL_law_285 : decode cL_law 285 = .ok (.iconst 1, 1) := by decide +kernel
theorem dL_law_286 : decode cL_law 286 = .ok (.iadd, 1) := by decide +kernel
theorem dL_law_287 : decode cL_law 287 = .ok (.iaload, 1) := by decide +kernel
theorem dL_law_288 : decode cL_law 288 = .ok (.aload_n 0, 1) := by decide +kernel
theorem dL_law_289 : decode cL_law 289 = .ok (.iload 4, 2) := by decide +kernel
theorem dL_law_291 : decode cL_law 291 = .ok (.iconst 2, 1) := by decide +kernel
theorem dL_law_292 : decode cL_law 292 = .ok (.iadd, 1) := by decide +kernel
theorem dL_law_293 : decode cL_law 293 = .ok (.iaload, 1) := by decide +kernel
theorem dL_law_294 : decode cL_law 294 = .ok (.aload_n 0, 1) := by decide +kernel
theorem dL_law_295 : decode cL_law 295 = .ok (.iload 4, 2) := by decide +kernel
theorem dL_law_297 : decode cL_law 297 = .ok (.iconst 3, 1) := by decide +kernel
theorem dL_law_298 : decode cL_law 298 = .ok (.iadd, 1) := by decide +kernel
theorem dL_law_299 : decode cL_law 299 = .ok (.iaload, 1) := by decide +kernel
theorem dL_law_300 : decode cL_law 300 = .ok (.invokevirtual 101, 3) := by decide +kernel
theorem dL_law_303 : decode cL_law 303 = .ok (.istore 6, 2) := by decide +kernel
theorem dL_law_305 : decode cL_law 305 = .ok (.aload_n 2, 1) := by decide +kernel
theorem dL_law_306 : decode cL_law 306 = .ok (.invokevirtual 91, 3) := by decide +kernel
theorem dL_law_309 : decode cL_law 309 = .ok (.iload 5, 2) := by decide +kernel
theorem dL_law_311 : decode cL_law 311 = .ok (.if_icmp .eq 5, 3) := by decide +kernel
theorem dL_law_314 : decode cL_law 314 = .ok (.iconst 0, 1) := by decide +kernel
theorem dL_law_315 : decode cL_law 315 = .ok (.ireturn, 1) := by decide +kernel
theorem dL_law_316 : decode cL_law 316 = .ok (.iload 5, 2) := by decide +kernel
theorem dL_law_318 : decode cL_law 318 = .ok (.ifCond .ne 15, 3) := by decide +kernel
theorem dL_law_321 : decode cL_law 321 = .ok (.aload_n 3, 1) := by decide +kernel
theorem dL_law_322 : decode cL_law 322 = .ok (.iconst 0, 1) := by decide +kernel
theorem dL_law_323 : decode cL_law 323 = .ok (.laload, 1) := by decide +kernel
theorem dL_law_324 : decode cL_law 324 = .ok (.iload 6, 2) := by decide +kernel
theorem dL_law_326 : decode cL_law 326 = .ok (.i2l, 1) := by decide +kernel
theorem dL_law_327 : decode cL_law 327 = .ok (.lcmp, 1) := by decide +kernel
theorem dL_law_328 : decode cL_law 328 = .ok (.ifCond .eq 5, 3) := by decide +kernel
theorem dL_law_331 : decode cL_law 331 = .ok (.iconst 0, 1) := by decide +kernel
theorem dL_law_332 : decode cL_law 332 = .ok (.ireturn, 1) := by decide +kernel
theorem dL_law_333 : decode cL_law 333 = .ok (.goto 1120, 3) := by decide +kernel
theorem dL_law_336 : decode cL_law 336 = .ok (.aload_n 1, 1) := by decide +kernel
theorem dL_law_337 : decode cL_law 337 = .ok (.aload_n 0, 1) := by decide +kernel
theorem dL_law_338 : decode cL_law 338 = .ok (.iload 4, 2) := by decide +kernel
theorem dL_law_340 : decode cL_law 340 = .ok (.iconst 1, 1) := by decide +kernel
theorem dL_law_341 : decode cL_law 341 = .ok (.iadd, 1) := by decide +kernel
theorem dL_law_342 : decode cL_law 342 = .ok (.iaload, 1) := by decide +kernel
theorem dL_law_343 : decode cL_law 343 = .ok (.aload_n 3, 1) := by decide +kernel
theorem dL_law_344 : decode cL_law 344 = .ok (.invokestatic 102, 3) := by decide +kernel
theorem dL_law_347 : decode cL_law 347 = .ok (.istore 5, 2) := by decide +kernel
theorem dL_law_349 : decode cL_law 349 = .ok (.aload_n 2, 1) := by decide +kernel
theorem dL_law_350 : decode cL_law 350 = .ok (.aload_n 0, 1) := by decide +kernel
theorem dL_law_351 : decode cL_law 351 = .ok (.iload 4, 2) := by decide +kernel
theorem dL_law_353 : decode cL_law 353 = .ok (.iconst 1, 1) := by decide +kernel
theorem dL_law_354 : decode cL_law 354 = .ok (.iadd, 1) := by decide +kernel
theorem dL_law_355 : decode cL_law 355 = .ok (.iaload, 1) := by decide +kernel
theorem dL_law_356 : decode cL_law 356 = .ok (.invokevirtual 105, 3) := by decide +kernel
theorem dL_law_359 : decode cL_law 359 = .ok (.istore 6, 2) := by decide +kernel
theorem dL_law_361 : decode cL_law 361 = .ok (.aload_n 2, 1) := by decide +kernel
theorem dL_law_362 : decode cL_law 362 = .ok (.invokevirtual 91, 3) := by decide +kernel
theorem dL_law_365 : decode cL_law 365 = .ok (.iload 5, 2) := by decide +kernel
theorem dL_law_367 : decode cL_law 367 = .ok (.if_icmp .eq 5, 3) := by decide +kernel
theorem dL_law_370 : decode cL_law 370 = .ok (.iconst 0, 1) := by decide +kernel
theorem dL_law_371 : decode cL_law 371 = .ok (.ireturn, 1) := by decide +kernel
theorem dL_law_372 : decode cL_law 372 = .ok (.iload 5, 2) := by decide +kernel
theorem dL_law_374 : decode cL_law 374 = .ok (.ifCond .ne 22, 3) := by decide +kernel
theorem dL_law_377 : decode cL_law 377 = .ok (.aload_n 3, 1) := by decide +kernel
theorem dL_law_378 : decode cL_law 378 = .ok (.iconst 0, 1) := by decide +kernel
theorem dL_law_379 : decode cL_law 379 = .ok (.laload, 1) := by decide +kernel
theorem dL_law_380 : decode cL_law 380 = .ok (.iload 6, 2) := by decide +kernel
theorem dL_law_382 : decode cL_law 382 = .ok (.ifCond .eq 7, 3) := by decide +kernel
theorem dL_law_385 : decode cL_law 385 = .ok (.lconst 1, 1) := by decide +kernel
theorem dL_law_386 : decode cL_law 386 = .ok (.goto 4, 3) := by decide +kernel
theorem dL_law_389 : decode cL_law 389 = .ok (.lconst 0, 1) := by decide +kernel
theorem dL_law_390 : decode cL_law 390 = .ok (.lcmp, 1) := by decide +kernel
theorem dL_law_391 : decode cL_law 391 = .ok (.ifCond .eq 5, 3) := by decide +kernel
theorem dL_law_394 : decode cL_law 394 = .ok (.iconst 0, 1) := by decide +kernel
theorem dL_law_395 : decode cL_law 395 = .ok (.ireturn, 1) := by decide +kernel
theorem dL_law_396 : decode cL_law 396 = .ok (.goto 1057, 3) := by decide +kernel
theorem dL_law_399 : decode cL_law 399 = .ok (.aload_n 1, 1) := by decide +kernel
theorem dL_law_400 : decode cL_law 400 = .ok (.aload_n 0, 1) := by decide +kernel
theorem dL_law_401 : decode cL_law 401 = .ok (.iload 4, 2) := by decide +kernel
theorem dL_law_403 : decode cL_law 403 = .ok (.iconst 1, 1) := by decide +kernel
theorem dL_law_404 : decode cL_law 404 = .ok (.iadd, 1) := by decide +kernel
theorem dL_law_405 : decode cL_law 405 = .ok (.iaload, 1) := by decide +kernel
theorem dL_law_406 : decode cL_law 406 = .ok (.aload_n 3, 1) := by decide +kernel
theorem dL_law_407 : decode cL_law 407 = .ok (.invokestatic 106, 3) := by decide +kernel
theorem dL_law_410 : decode cL_law 410 = .ok (.istore 5, 2) := by decide +kernel
theorem dL_law_412 : decode cL_law 412 = .ok (.aload_n 2, 1) := by decide +kernel
theorem dL_law_413 : decode cL_law 413 = .ok (.aload_n 0, 1) := by decide +kernel
theorem dL_law_414 : decode cL_law 414 = .ok (.iload 4, 2) := by decide +kernel
theorem dL_law_416 : decode cL_law 416 = .ok (.iconst 1, 1) := by decide +kernel
theorem dL_law_417 : decode cL_law 417 = .ok (.iadd, 1) := by decide +kernel
theorem dL_law_418 : decode cL_law 418 = .ok (.iaload, 1) := by decide +kernel
theorem dL_law_419 : decode cL_law 419 = .ok (.invokevirtual 108, 3) := by decide +kernel
theorem dL_law_422 : decode cL_law 422 = .ok (.istore 6, 2) := by decide +kernel
theorem dL_law_424 : decode cL_law 424 = .ok (.aload_n 2, 1) := by decide +kernel
theorem dL_law_425 : decode cL_law 425 = .ok (.invokevirtual 91, 3) := by decide +kernel
theorem dL_law_428 : decode cL_law 428 = .ok (.iload 5, 2) := by decide +kernel
theorem dL_law_430 : decode cL_law 430 = .ok (.if_icmp .eq 5, 3) := by decide +kernel
theorem dL_law_433 : decode cL_law 433 = .ok (.iconst 0, 1) := by decide +kernel
theorem dL_law_434 : decode cL_law 434 = .ok (.ireturn, 1) := by decide +kernel
theorem dL_law_435 : decode cL_law 435 = .ok (.iload 5, 2) := by decide +kernel
theorem dL_law_437 : decode cL_law 437 = .ok (.ifCond .ne 15, 3) := by decide +kernel
theorem dL_law_440 : decode cL_law 440 = .ok (.aload_n 3, 1) := by decide +kernel
theorem dL_law_441 : decode cL_law 441 = .ok (.iconst 0, 1) := by decide +kernel
theorem dL_law_442 : decode cL_law 442 = .ok (.laload, 1) := by decide +kernel
theorem dL_law_443 : decode cL_law 443 = .ok (.iload 6, 2) := by decide +kernel
theorem dL_law_445 : decode cL_law 445 = .ok (.i2l, 1) := by decide +kernel
theorem dL_law_446 : decode cL_law 446 = .ok (.lcmp, 1) := by decide +kernel
theorem dL_law_447 : decode cL_law 447 = .ok (.ifCond .eq 5, 3) := by decide +kernel
theorem dL_law_450 : decode cL_law 450 = .ok (.iconst 0, 1) := by decide +kernel
theorem dL_law_451 : decode cL_law 451 = .ok (.ireturn, 1) := by decide +kernel
theorem dL_law_452 : decode cL_law 452 = .ok (.goto 1001, 3) := by decide +kernel
theorem dL_law_455 : decode cL_law 455 = .ok (.aload_n 1, 1) := by decide +kernel
theorem dL_law_456 : decode cL_law 456 = .ok (.aload_n 0, 1) := by decide +kernel
theorem dL_law_457 : decode cL_law 457 = .ok (.iload 4, 2) := by decide +kernel
theorem dL_law_459 : decode cL_law 459 = .ok (.iconst 1, 1) := by decide +kernel
theorem dL_law_460 : decode cL_law 460 = .ok (.iadd, 1) := by decide +kernel
theorem dL_law_461 : decode cL_law 461 = .ok (.iaload, 1) := by decide +kernel
theorem dL_law_462 : decode cL_law 462 = .ok (.aload_n 0, 1) := by decide +kernel
theorem dL_law_463 : decode cL_law 463 = .ok (.iload 4, 2) := by decide +kernel
theorem dL_law_465 : decode cL_law 465 = .ok (.iconst 2, 1) := by decide +kernel
theorem dL_law_466 : decode cL_law 466 = .ok (.iadd, 1) := by decide +kernel
theorem dL_law_467 : decode cL_law 467 = .ok (.iaload, 1) := by decide +kernel
theorem dL_law_468 : decode cL_law 468 = .ok (.aload_n 0, 1) := by decide +kernel
theorem dL_law_469 : decode cL_law 469 = .ok (.iload 4, 2) := by decide +kernel
theorem dL_law_471 : decode cL_law 471 = .ok (.iconst 3, 1) := by decide +kernel
theorem dL_law_472 : decode cL_law 472 = .ok (.iadd, 1) := by decide +kernel
theorem dL_law_473 : decode cL_law 473 = .ok (.iaload, 1) := by decide +kernel
theorem dL_law_474 : decode cL_law 474 = .ok (.aload_n 0, 1) := by decide +kernel
theorem dL_law_475 : decode cL_law 475 = .ok (.iload 4, 2) := by decide +kernel
theorem dL_law_477 : decode cL_law 477 = .ok (.iconst 4, 1) := by decide +kernel
theorem dL_law_478 : decode cL_law 478 = .ok (.iadd, 1) := by decide +kernel
theorem dL_law_479 : decode cL_law 479 = .ok (.iaload, 1) := by decide +kernel
theorem dL_law_480 : decode cL_law 480 = .ok (.aload_n 0, 1) := by decide +kernel
theorem dL_law_481 : decode cL_law 481 = .ok (.iload 4, 2) := by decide +kernel
theorem dL_law_483 : decode cL_law 483 = .ok (.iconst 5, 1) := by decide +kernel
theorem dL_law_484 : decode cL_law 484 = .ok (.iadd, 1) := by decide +kernel
theorem dL_law_485 : decode cL_law 485 = .ok (.iaload, 1) := by decide +kernel
theorem dL_law_486 : decode cL_law 486 = .ok (.aload_n 3, 1) := by decide +kernel
theorem dL_law_487 : decode cL_law 487 = .ok (.invokestatic 109, 3) := by decide +kernel
theorem dL_law_490 : decode cL_law 490 = .ok (.istore 5, 2) := by decide +kernel
theorem dL_law_492 : decode cL_law 492 = .ok (.aload_n 2, 1) := by decide +kernel
theorem dL_law_493 : decode cL_law 493 = .ok (.aload_n 0, 1) := by decide +kernel
theorem dL_law_494 : decode cL_law 494 = .ok (.iload 4, 2) := by decide +kernel
theorem dL_law_496 : decode cL_law 496 = .ok (.iconst 1, 1) := by decide +kernel
theorem dL_law_497 : decode cL_law 497 = .ok (.iadd, 1) := by decide +kernel
theorem dL_law_498 : decode cL_law 498 = .ok (.iaload, 1) := by decide +kernel
theorem dL_law_499 : decode cL_law 499 = .ok (.aload_n 0, 1) := by decide +kernel
theorem dL_law_500 : decode cL_law 500 = .ok (.iload 4, 2) := by decide +kernel
theorem dL_law_502 : decode cL_law 502 = .ok (.iconst 2, 1) := by decide +kernel
theorem dL_law_503 : decode cL_law 503 = .ok (.iadd, 1) := by decide +kernel
theorem dL_law_504 : decode cL_law 504 = .ok (.iaload, 1) := by decide +kernel
theorem dL_law_505 : decode cL_law 505 = .ok (.aload_n 0, 1) := by decide +kernel
theorem dL_law_506 : decode cL_law 506 = .ok (.iload 4, 2) := by decide +kernel
theorem dL_law_508 : decode cL_law 508 = .ok (.iconst 3, 1) := by decide +kernel
theorem dL_law_509 : decode cL_law 509 = .ok (.iadd, 1) := by decide +kernel
theorem dL_law_510 : decode cL_law 510 = .ok (.iaload, 1) := by decide +kernel
theorem dL_law_511 : decode cL_law 511 = .ok (.aload_n 0, 1) := by decide +kernel
theorem dL_law_512 : decode cL_law 512 = .ok (.iload 4, 2) := by decide +kernel
theorem dL_law_514 : decode cL_law 514 = .ok (.iconst 4, 1) := by decide +kernel
theorem dL_law_515 : decode cL_law 515 = .ok (.iadd, 1) := by decide +kernel
theorem dL_law_516 : decode cL_law 516 = .ok (.iaload, 1) := by decide +kernel
theorem dL_law_517 : decode cL_law 517 = .ok (.aload_n 0, 1) := by decide +kernel
theorem dL_law_518 : decode cL_law 518 = .ok (.iload 4, 2) := by decide +kernel
theorem dL_law_520 : decode cL_law 520 = .ok (.iconst 5, 1) := by decide +kernel
theorem dL_law_521 : decode cL_law 521 = .ok (.iadd, 1) := by decide +kernel
theorem dL_law_522 : decode cL_law 522 = .ok (.iaload, 1) := by decide +kernel
theorem dL_law_523 : decode cL_law 523 = .ok (.invokevirtual 112, 3) := by decide +kernel
theorem dL_law_526 : decode cL_law 526 = .ok (.istore 6, 2) := by decide +kernel
theorem dL_law_528 : decode cL_law 528 = .ok (.aload_n 2, 1) := by decide +kernel
theorem dL_law_529 : decode cL_law 529 = .ok (.invokevirtual 91, 3) := by decide +kernel
theorem dL_law_532 : decode cL_law 532 = .ok (.iload 5, 2) := by decide +kernel
theorem dL_law_534 : decode cL_law 534 = .ok (.if_icmp .eq 5, 3) := by decide +kernel
theorem dL_law_537 : decode cL_law 537 = .ok (.iconst 0, 1) := by decide +kernel
theorem dL_law_538 : decode cL_law 538 = .ok (.ireturn, 1) := by decide +kernel
theorem dL_law_539 : decode cL_law 539 = .ok (.iload 5, 2) := by decide +kernel
theorem dL_law_541 : decode cL_law 541 = .ok (.ifCond .ne 15, 3) := by decide +kernel
theorem dL_law_544 : decode cL_law 544 = .ok (.aload_n 3, 1) := by decide +kernel
theorem dL_law_545 : decode cL_law 545 = .ok (.iconst 0, 1) := by decide +kernel
theorem dL_law_546 : decode cL_law 546 = .ok (.laload, 1) := by decide +kernel
theorem dL_law_547 : decode cL_law 547 = .ok (.iload 6, 2) := by decide +kernel
theorem dL_law_549 : decode cL_law 549 = .ok (.i2l, 1) := by decide +kernel
theorem dL_law_550 : decode cL_law 550 = .ok (.lcmp, 1) := by decide +kernel
theorem dL_law_551 : decode cL_law 551 = .ok (.ifCond .eq 5, 3) := by decide +kernel
theorem dL_law_554 : decode cL_law 554 = .ok (.iconst 0, 1) := by decide +kernel
theorem dL_law_555 : decode cL_law 555 = .ok (.ireturn, 1) := by decide +kernel
theorem dL_law_556 : decode cL_law 556 = .ok (.goto 897, 3) := by decide +kernel
theorem dL_law_559 : decode cL_law 559 = .ok (.aload_n 1, 1) := by decide +kernel
theorem dL_law_560 : decode cL_law 560 = .ok (.aload_n 0, 1) := by decide +kernel
theorem dL_law_561 : decode cL_law 561 = .ok (.iload 4, 2) := by decide +kernel
theorem dL_law_563 : decode cL_law 563 = .ok (.iconst 1, 1) := by decide +kernel
theorem dL_law_564 : decode cL_law 564 = .ok (.iadd, 1) := by decide +kernel
theorem dL_law_565 : decode cL_law 565 = .ok (.iaload, 1) := by decide +kernel
theorem dL_law_566 : decode cL_law 566 = .ok (.aload_n 0, 1) := by decide +kernel
theorem dL_law_567 : decode cL_law 567 = .ok (.iload 4, 2) := by decide +kernel
theorem dL_law_569 : decode cL_law 569 = .ok (.iconst 2, 1) := by decide +kernel
theorem dL_law_570 : decode cL_law 570 = .ok (.iadd, 1) := by decide +kernel
theorem dL_law_571 : decode cL_law 571 = .ok (.iaload, 1) := by decide +kernel
theorem dL_law_572 : decode cL_law 572 = .ok (.aload_n 0, 1) := by decide +kernel
theorem dL_law_573 : decode cL_law 573 = .ok (.iload 4, 2) := by decide +kernel
theorem dL_law_575 : decode cL_law 575 = .ok (.iconst 3, 1) := by decide +kernel
theorem dL_law_576 : decode cL_law 576 = .ok (.iadd, 1) := by decide +kernel
theorem dL_law_577 : decode cL_law 577 = .ok (.iaload, 1) := by decide +kernel
theorem dL_law_578 : decode cL_law 578 = .ok (.aload_n 3, 1) := by decide +kernel
theorem dL_law_579 : decode cL_law 579 = .ok (.invokestatic 113, 3) := by decide +kernel
theorem dL_law_582 : decode cL_law 582 = .ok (.istore 5, 2) := by decide +kernel
theorem dL_law_584 : decode cL_law 584 = .ok (.aload_n 2, 1) := by decide +kernel
theorem dL_law_585 : decode cL_law 585 = .ok (.aload_n 0, 1) := by decide +kernel
theorem dL_law_586 : decode cL_law 586 = .ok (.iload 4, 2) := by decide +kernel
theorem dL_law_588 : decode cL_law 588 = .ok (.iconst 1, 1) := by decide +kernel
theorem dL_law_589 : decode cL_law 589 = .ok (.iadd, 1) := by decide +kernel
theorem dL_law_590 : decode cL_law 590 = .ok (.iaload, 1) := by decide +kernel
theorem dL_law_591 : decode cL_law 591 = .ok (.aload_n 0, 1) := by decide +kernel
theorem dL_law_592 : decode cL_law 592 = .ok (.iload 4, 2) := by decide +kernel
theorem dL_law_594 : decode cL_law 594 = .ok (.iconst 2, 1) := by decide +kernel
theorem dL_law_595 : decode cL_law 595 = .ok (.iadd, 1) := by decide +kernel
theorem dL_law_596 : decode cL_law 596 = .ok (.iaload, 1) := by decide +kernel
theorem dL_law_597 : decode cL_law 597 = .ok (.aload_n 0, 1) := by decide +kernel
theorem dL_law_598 : decode cL_law 598 = .ok (.iload 4, 2) := by decide +kernel
theorem dL_law_600 : decode cL_law 600 = .ok (.iconst 3, 1) := by decide +kernel
theorem dL_law_601 : decode cL_law 601 = .ok (.iadd, 1) := by decide +kernel
theorem dL_law_602 : decode cL_law 602 = .ok (.iaload, 1) := by decide +kernel
theorem dL_law_603 : decode cL_law 603 = .ok (.invokevirtual 115, 3) := by decide +kernel
theorem dL_law_606 : decode cL_law 606 = .ok (.istore 6, 2) := by decide +kernel
theorem dL_law_608 : decode cL_law 608 = .ok (.aload_n 2, 1) := by decide +kernel
theorem dL_law_609 : decode cL_law 609 = .ok (.invokevirtual 91, 3) := by decide +kernel
theorem dL_law_612 : decode cL_law 612 = .ok (.iload 5, 2) := by decide +kernel
theorem dL_law_614 : decode cL_law 614 = .ok (.if_icmp .eq 5, 3) := by decide +kernel
theorem dL_law_617 : decode cL_law 617 = .ok (.iconst 0, 1) := by decide +kernel
theorem dL_law_618 : decode cL_law 618 = .ok (.ireturn, 1) := by decide +kernel
theorem dL_law_619 : decode cL_law 619 = .ok (.iload 5, 2) := by decide +kernel
theorem dL_law_621 : decode cL_law 621 = .ok (.ifCond .ne 15, 3) := by decide +kernel
theorem dL_law_624 : decode cL_law 624 = .ok (.aload_n 3, 1) := by decide +kernel
theorem dL_law_625 : decode cL_law 625 = .ok (.iconst 0, 1) := by decide +kernel
theorem dL_law_626 : decode cL_law 626 = .ok (.laload, 1) := by decide +kernel
theorem dL_law_627 : decode cL_law 627 = .ok (.iload 6, 2) := by decide +kernel
theorem dL_law_629 : decode cL_law 629 = .ok (.i2l, 1) := by decide +kernel
theorem dL_law_630 : decode cL_law 630 = .ok (.lcmp, 1) := by decide +kernel
theorem dL_law_631 : decode cL_law 631 = .ok (.ifCond .eq 5, 3) := by decide +kernel
theorem dL_law_634 : decode cL_law 634 = .ok (.iconst 0, 1) := by decide +kernel
theorem dL_law_635 : decode cL_law 635 = .ok (.ireturn, 1) := by decide +kernel
theorem dL_law_636 : decode cL_law 636 = .ok (.goto 817, 3) := by decide +kernel
theorem dL_law_639 : decode cL_law 639 = .ok (.aload_n 1, 1) := by decide +kernel
theorem dL_law_640 : decode cL_law 640 = .ok (.aload_n 0, 1) := by decide +kernel
theorem dL_law_641 : decode cL_law 641 = .ok (.iload 4, 2) := by decide +kernel
theorem dL_law_643 : decode cL_law 643 = .ok (.iconst 1, 1) := by decide +kernel
theorem dL_law_644 : decode cL_law 644 = .ok (.iadd, 1) := by decide +kernel
theorem dL_law_645 : decode cL_law 645 = .ok (.iaload, 1) := by decide +kernel
theorem dL_law_646 : decode cL_law 646 = .ok (.aload_n 3, 1) := by decide +kernel
theorem dL_law_647 : decode cL_law 647 = .ok (.invokestatic 116, 3) := by decide +kernel
theorem dL_law_650 : decode cL_law 650 = .ok (.istore 5, 2) := by decide +kernel
theorem dL_law_652 : decode cL_law 652 = .ok (.aload_n 2, 1) := by decide +kernel
theorem dL_law_653 : decode cL_law 653 = .ok (.aload_n 0, 1) := by decide +kernel
theorem dL_law_654 : decode cL_law 654 = .ok (.iload 4, 2) := by decide +kernel
theorem dL_law_656 : decode cL_law 656 = .ok (.iconst 1, 1) := by decide +kernel
theorem dL_law_657 : decode cL_law 657 = .ok (.iadd, 1) := by decide +kernel
theorem dL_law_658 : decode cL_law 658 = .ok (.iaload, 1) := by decide +kernel
theorem dL_law_659 : decode cL_law 659 = .ok (.invokevirtual 118, 3) := by decide +kernel
theorem dL_law_662 : decode cL_law 662 = .ok (.istore 6, 2) := by decide +kernel
theorem dL_law_664 : decode cL_law 664 = .ok (.aload_n 2, 1) := by decide +kernel
theorem dL_law_665 : decode cL_law 665 = .ok (.invokevirtual 91, 3) := by decide +kernel
theorem dL_law_668 : decode cL_law 668 = .ok (.iload 5, 2) := by decide +kernel
theorem dL_law_670 : decode cL_law 670 = .ok (.if_icmp .eq 5, 3) := by decide +kernel
theorem dL_law_673 : decode cL_law 673 = .ok (.iconst 0, 1) := by decide +kernel
theorem dL_law_674 : decode cL_law 674 = .ok (.ireturn, 1) := by decide +kernel
theorem dL_law_675 : decode cL_law 675 = .ok (.iload 5, 2) := by decide +kernel
theorem dL_law_677 : decode cL_law 677 = .ok (.ifCond .ne 15, 3) := by decide +kernel
theorem dL_law_680 : decode cL_law 680 = .ok (.aload_n 3, 1) := by decide +kernel
theorem dL_law_681 : decode cL_law 681 = .ok (.iconst 0, 1) := by decide +kernel
theorem dL_law_682 : decode cL_law 682 = .ok (.laload, 1) := by decide +kernel
theorem dL_law_683 : decode cL_law 683 = .ok (.iload 6, 2) := by decide +kernel
theorem dL_law_685 : decode cL_law 685 = .ok (.i2l, 1) := by decide +kernel
theorem dL_law_686 : decode cL_law 686 = .ok (.lcmp, 1) := by decide +kernel
theorem dL_law_687 : decode cL_law 687 = .ok (.ifCond .eq 5, 3) := by decide +kernel
theorem dL_law_690 : decode cL_law 690 = .ok (.iconst 0, 1) := by decide +kernel
theorem dL_law_691 : decode cL_law 691 = .ok (.ireturn, 1) := by decide +kernel
theorem dL_law_692 : decode cL_law 692 = .ok (.goto 761, 3) := by decide +kernel
theorem dL_law_695 : decode cL_law 695 = .ok (.aload_n 1, 1) := by decide +kernel
theorem dL_law_696 : decode cL_law 696 = .ok (.aload_n 0, 1) := by decide +kernel
theorem dL_law_697 : decode cL_law 697 = .ok (.iload 4, 2) := by decide +kernel
theorem dL_law_699 : decode cL_law 699 = .ok (.iconst 1, 1) := by decide +kernel
theorem dL_law_700 : decode cL_law 700 = .ok (.iadd, 1) := by decide +kernel
theorem dL_law_701 : decode cL_law 701 = .ok (.iaload, 1) := by decide +kernel
theorem dL_law_702 : decode cL_law 702 = .ok (.aload_n 3, 1) := by decide +kernel
theorem dL_law_703 : decode cL_law 703 = .ok (.invokestatic 119, 3) := by decide +kernel
theorem dL_law_706 : decode cL_law 706 = .ok (.istore 5, 2) := by decide +kernel
theorem dL_law_708 : decode cL_law 708 = .ok (.aload_n 2, 1) := by decide +kernel
theorem dL_law_709 : decode cL_law 709 = .ok (.aload_n 0, 1) := by decide +kernel
theorem dL_law_710 : decode cL_law 710 = .ok (.iload 4, 2) := by decide +kernel
theorem dL_law_712 : decode cL_law 712 = .ok (.iconst 1, 1) := by decide +kernel
theorem dL_law_713 : decode cL_law 713 = .ok (.iadd, 1) := by decide +kernel
theorem dL_law_714 : decode cL_law 714 = .ok (.iaload, 1) := by decide +kernel
theorem dL_law_715 : decode cL_law 715 = .ok (.invokevirtual 121, 3) := by decide +kernel
theorem dL_law_718 : decode cL_law 718 = .ok (.istore 6, 2) := by decide +kernel
theorem dL_law_720 : decode cL_law 720 = .ok (.aload_n 2, 1) := by decide +kernel
theorem dL_law_721 : decode cL_law 721 = .ok (.invokevirtual 91, 3) := by decide +kernel
theorem dL_law_724 : decode cL_law 724 = .ok (.iload 5, 2) := by decide +kernel
theorem dL_law_726 : decode cL_law 726 = .ok (.if_icmp .eq 5, 3) := by decide +kernel
theorem dL_law_729 : decode cL_law 729 = .ok (.iconst 0, 1) := by decide +kernel
theorem dL_law_730 : decode cL_law 730 = .ok (.ireturn, 1) := by decide +kernel
theorem dL_law_731 : decode cL_law 731 = .ok (.iload 5, 2) := by decide +kernel
theorem dL_law_733 : decode cL_law 733 = .ok (.ifCond .ne 15, 3) := by decide +kernel
theorem dL_law_736 : decode cL_law 736 = .ok (.aload_n 3, 1) := by decide +kernel
theorem dL_law_737 : decode cL_law 737 = .ok (.iconst 0, 1) := by decide +kernel
theorem dL_law_738 : decode cL_law 738 = .ok (.laload, 1) := by decide +kernel
theorem dL_law_739 : decode cL_law 739 = .ok (.iload 6, 2) := by decide +kernel
theorem dL_law_741 : decode cL_law 741 = .ok (.i2l, 1) := by decide +kernel
theorem dL_law_742 : decode cL_law 742 = .ok (.lcmp, 1) := by decide +kernel
theorem dL_law_743 : decode cL_law 743 = .ok (.ifCond .eq 5, 3) := by decide +kernel
theorem dL_law_746 : decode cL_law 746 = .ok (.iconst 0, 1) := by decide +kernel
theorem dL_law_747 : decode cL_law 747 = .ok (.ireturn, 1) := by decide +kernel
theorem dL_law_748 : decode cL_law 748 = .ok (.goto 705, 3) := by decide +kernel
theorem dL_law_751 : decode cL_law 751 = .ok (.aload_n 1, 1) := by decide +kernel
theorem dL_law_752 : decode cL_law 752 = .ok (.aload_n 0, 1) := by decide +kernel
theorem dL_law_753 : decode cL_law 753 = .ok (.iload 4, 2) := by decide +kernel
theorem dL_law_755 : decode cL_law 755 = .ok (.iconst 1, 1) := by decide +kernel
theorem dL_law_756 : decode cL_law 756 = .ok (.iadd, 1) := by decide +kernel
theorem dL_law_757 : decode cL_law 757 = .ok (.iaload, 1) := by decide +kernel
theorem dL_law_758 : decode cL_law 758 = .ok (.aload_n 3, 1) := by decide +kernel
theorem dL_law_759 : decode cL_law 759 = .ok (.invokestatic 122, 3) := by decide +kernel
theorem dL_law_762 : decode cL_law 762 = .ok (.istore 5, 2) := by decide +kernel
theorem dL_law_764 : decode cL_law 764 = .ok (.aload_n 2, 1) := by decide +kernel
theorem dL_law_765 : decode cL_law 765 = .ok (.aload_n 0, 1) := by decide +kernel
theorem dL_law_766 : decode cL_law 766 = .ok (.iload 4, 2) := by decide +kernel
theorem dL_law_768 : decode cL_law 768 = .ok (.iconst 1, 1) := by decide +kernel
theorem dL_law_769 : decode cL_law 769 = .ok (.iadd, 1) := by decide +kernel
theorem dL_law_770 : decode cL_law 770 = .ok (.iaload, 1) := by decide +kernel
theorem dL_law_771 : decode cL_law 771 = .ok (.invokevirtual 124, 3) := by decide +kernel
theorem dL_law_774 : decode cL_law 774 = .ok (.istore 6, 2) := by decide +kernel
theorem dL_law_776 : decode cL_law 776 = .ok (.aload_n 2, 1) := by decide +kernel
theorem dL_law_777 : decode cL_law 777 = .ok (.invokevirtual 91, 3) := by decide +kernel
theorem dL_law_780 : decode cL_law 780 = .ok (.iload 5, 2) := by decide +kernel
theorem dL_law_782 : decode cL_law 782 = .ok (.if_icmp .eq 5, 3) := by decide +kernel
theorem dL_law_785 : decode cL_law 785 = .ok (.iconst 0, 1) := by decide +kernel
theorem dL_law_786 : decode cL_law 786 = .ok (.ireturn, 1) := by decide +kernel
theorem dL_law_787 : decode cL_law 787 = .ok (.iload 5, 2) := by decide +kernel
theorem dL_law_789 : decode cL_law 789 = .ok (.ifCond .ne 15, 3) := by decide +kernel
theorem dL_law_792 : decode cL_law 792 = .ok (.aload_n 3, 1) := by decide +kernel
theorem dL_law_793 : decode cL_law 793 = .ok (.iconst 0, 1) := by decide +kernel
theorem dL_law_794 : decode cL_law 794 = .ok (.laload, 1) := by decide +kernel
theorem dL_law_795 : decode cL_law 795 = .ok (.iload 6, 2) := by decide +kernel
theorem dL_law_797 : decode cL_law 797 = .ok (.i2l, 1) := by decide +kernel
theorem dL_law_798 : decode cL_law 798 = .ok (.lcmp, 1) := by decide +kernel
theorem dL_law_799 : decode cL_law 799 = .ok (.ifCond .eq 5, 3) := by decide +kernel
theorem dL_law_802 : decode cL_law 802 = .ok (.iconst 0, 1) := by decide +kernel
theorem dL_law_803 : decode cL_law 803 = .ok (.ireturn, 1) := by decide +kernel
theorem dL_law_804 : decode cL_law 804 = .ok (.goto 649, 3) := by decide +kernel
theorem dL_law_807 : decode cL_law 807 = .ok (.aload_n 1, 1) := by decide +kernel
theorem dL_law_808 : decode cL_law 808 = .ok (.aload_n 0, 1) := by decide +kernel
theorem dL_law_809 : decode cL_law 809 = .ok (.iload 4, 2) := by decide +kernel
theorem dL_law_811 : decode cL_law 811 = .ok (.iconst 1, 1) := by decide +kernel
theorem dL_law_812 : decode cL_law 812 = .ok (.iadd, 1) := by decide +kernel
theorem dL_law_813 : decode cL_law 813 = .ok (.iaload, 1) := by decide +kernel
theorem dL_law_814 : decode cL_law 814 = .ok (.aload_n 0, 1) := by decide +kernel
theorem dL_law_815 : decode cL_law 815 = .ok (.iload 4, 2) := by decide +kernel
theorem dL_law_817 : decode cL_law 817 = .ok (.iconst 2, 1) := by decide +kernel
theorem dL_law_818 : decode cL_law 818 = .ok (.iadd, 1) := by decide +kernel
theorem dL_law_819 : decode cL_law 819 = .ok (.iaload, 1) := by decide +kernel
theorem dL_law_820 : decode cL_law 820 = .ok (.aload_n 3, 1) := by decide +kernel
theorem dL_law_821 : decode cL_law 821 = .ok (.invokestatic 125, 3) := by decide +kernel
theorem dL_law_824 : decode cL_law 824 = .ok (.istore 5, 2) := by decide +kernel
theorem dL_law_826 : decode cL_law 826 = .ok (.aload_n 2, 1) := by decide +kernel
theorem dL_law_827 : decode cL_law 827 = .ok (.aload_n 0, 1) := by decide +kernel
theorem dL_law_828 : decode cL_law 828 = .ok (.iload 4, 2) := by decide +kernel
theorem dL_law_830 : decode cL_law 830 = .ok (.iconst 1, 1) := by decide +kernel
theorem dL_law_831 : decode cL_law 831 = .ok (.iadd, 1) := by decide +kernel
theorem dL_law_832 : decode cL_law 832 = .ok (.iaload, 1) := by decide +kernel
theorem dL_law_833 : decode cL_law 833 = .ok (.aload_n 0, 1) := by decide +kernel
theorem dL_law_834 : decode cL_law 834 = .ok (.iload 4, 2) := by decide +kernel
theorem dL_law_836 : decode cL_law 836 = .ok (.iconst 2, 1) := by decide +kernel
theorem dL_law_837 : decode cL_law 837 = .ok (.iadd, 1) := by decide +kernel
theorem dL_law_838 : decode cL_law 838 = .ok (.iaload, 1) := by decide +kernel
theorem dL_law_839 : decode cL_law 839 = .ok (.invokevirtual 127, 3) := by decide +kernel
theorem dL_law_842 : decode cL_law 842 = .ok (.istore 6, 2) := by decide +kernel
theorem dL_law_844 : decode cL_law 844 = .ok (.aload_n 2, 1) := by decide +kernel
theorem dL_law_845 : decode cL_law 845 = .ok (.invokevirtual 91, 3) := by decide +kernel
theorem dL_law_848 : decode cL_law 848 = .ok (.iload 5, 2) := by decide +kernel
theorem dL_law_850 : decode cL_law 850 = .ok (.if_icmp .eq 5, 3) := by decide +kernel
theorem dL_law_853 : decode cL_law 853 = .ok (.iconst 0, 1) := by decide +kernel
theorem dL_law_854 : decode cL_law 854 = .ok (.ireturn, 1) := by decide +kernel
theorem dL_law_855 : decode cL_law 855 = .ok (.iload 5, 2) := by decide +kernel
theorem dL_law_857 : decode cL_law 857 = .ok (.ifCond .ne 15, 3) := by decide +kernel
theorem dL_law_860 : decode cL_law 860 = .ok (.aload_n 3, 1) := by decide +kernel
theorem dL_law_861 : decode cL_law 861 = .ok (.iconst 0, 1) := by decide +kernel
theorem dL_law_862 : decode cL_law 862 = .ok (.laload, 1) := by decide +kernel
theorem dL_law_863 : decode cL_law 863 = .ok (.iload 6, 2) := by decide +kernel
theorem dL_law_865 : decode cL_law 865 = .ok (.i2l, 1) := by decide +kernel
theorem dL_law_866 : decode cL_law 866 = .ok (.lcmp, 1) := by decide +kernel
theorem dL_law_867 : decode cL_law 867 = .ok (.ifCond .eq 5, 3) := by decide +kernel
theorem dL_law_870 : decode cL_law 870 = .ok (.iconst 0, 1) := by decide +kernel
theorem dL_law_871 : decode cL_law 871 = .ok (.ireturn, 1) := by decide +kernel
theorem dL_law_872 : decode cL_law 872 = .ok (.goto 581, 3) := by decide +kernel
theorem dL_law_875 : decode cL_law 875 = .ok (.aload_n 1, 1) := by decide +kernel
theorem dL_law_876 : decode cL_law 876 = .ok (.aload_n 0, 1) := by decide +kernel
theorem dL_law_877 : decode cL_law 877 = .ok (.iload 4, 2) := by decide +kernel
theorem dL_law_879 : decode cL_law 879 = .ok (.iconst 1, 1) := by decide +kernel
theorem dL_law_880 : decode cL_law 880 = .ok (.iadd, 1) := by decide +kernel
theorem dL_law_881 : decode cL_law 881 = .ok (.iaload, 1) := by decide +kernel
theorem dL_law_882 : decode cL_law 882 = .ok (.aload_n 3, 1) := by decide +kernel
theorem dL_law_883 : decode cL_law 883 = .ok (.invokestatic 128, 3) := by decide +kernel
theorem dL_law_886 : decode cL_law 886 = .ok (.istore 5, 2) := by decide +kernel
theorem dL_law_888 : decode cL_law 888 = .ok (.aload_n 2, 1) := by decide +kernel
theorem dL_law_889 : decode cL_law 889 = .ok (.aload_n 0, 1) := by decide +kernel
theorem dL_law_890 : decode cL_law 890 = .ok (.iload 4, 2) := by decide +kernel
theorem dL_law_892 : decode cL_law 892 = .ok (.iconst 1, 1) := by decide +kernel
theorem dL_law_893 : decode cL_law 893 = .ok (.iadd, 1) := by decide +kernel
theorem dL_law_894 : decode cL_law 894 = .ok (.iaload, 1) := by decide +kernel
theorem dL_law_895 : decode cL_law 895 = .ok (.invokevirtual 130, 3) := by decide +kernel
theorem dL_law_898 : decode cL_law 898 = .ok (.istore 6, 2) := by decide +kernel
theorem dL_law_900 : decode cL_law 900 = .ok (.aload_n 2, 1) := by decide +kernel
theorem dL_law_901 : decode cL_law 901 = .ok (.invokevirtual 91, 3) := by decide +kernel
theorem dL_law_904 : decode cL_law 904 = .ok (.iload 5, 2) := by decide +kernel
theorem dL_law_906 : decode cL_law 906 = .ok (.if_icmp .eq 5, 3) := by decide +kernel
theorem dL_law_909 : decode cL_law 909 = .ok (.iconst 0, 1) := by decide +kernel
theorem dL_law_910 : decode cL_law 910 = .ok (.ireturn, 1) := by decide +kernel
theorem dL_law_911 : decode cL_law 911 = .ok (.iload 5, 2) := by decide +kernel
theorem dL_law_913 : decode cL_law 913 = .ok (.ifCond .ne 15, 3) := by decide +kernel
theorem dL_law_916 : decode cL_law 916 = .ok (.aload_n 3, 1) := by decide +kernel
theorem dL_law_917 : decode cL_law 917 = .ok (.iconst 0, 1) := by decide +kernel
theorem dL_law_918 : decode cL_law 918 = .ok (.laload, 1) := by decide +kernel
theorem dL_law_919 : decode cL_law 919 = .ok (.iload 6, 2) := by decide +kernel
theorem dL_law_921 : decode cL_law 921 = .ok (.i2l, 1) := by decide +kernel
theorem dL_law_922 : decode cL_law 922 = .ok (.lcmp, 1) := by decide +kernel
theorem dL_law_923 : decode cL_law 923 = .ok (.ifCond .eq 5, 3) := by decide +kernel
theorem dL_law_926 : decode cL_law 926 = .ok (.iconst 0, 1) := by decide +kernel
theorem dL_law_927 : decode cL_law 927 = .ok (.ireturn, 1) := by decide +kernel
theorem dL_law_928 : decode cL_law 928 = .ok (.goto 525, 3) := by decide +kernel
theorem dL_law_931 : decode cL_law 931 = .ok (.aload_n 1, 1) := by decide +kernel
theorem dL_law_932 : decode cL_law 932 = .ok (.aload_n 0, 1) := by decide +kernel
theorem dL_law_933 : decode cL_law 933 = .ok (.iload 4, 2) := by decide +kernel
theorem dL_law_935 : decode cL_law 935 = .ok (.iconst 1, 1) := by decide +kernel
theorem dL_law_936 : decode cL_law 936 = .ok (.iadd, 1) := by decide +kernel
theorem dL_law_937 : decode cL_law 937 = .ok (.iaload, 1) := by decide +kernel
theorem dL_law_938 : decode cL_law 938 = .ok (.aload_n 0, 1) := by decide +kernel
theorem dL_law_939 : decode cL_law 939 = .ok (.iload 4, 2) := by decide +kernel
theorem dL_law_941 : decode cL_law 941 = .ok (.iconst 2, 1) := by decide +kernel
theorem dL_law_942 : decode cL_law 942 = .ok (.iadd, 1) := by decide +kernel
theorem dL_law_943 : decode cL_law 943 = .ok (.iaload, 1) := by decide +kernel
theorem dL_law_944 : decode cL_law 944 = .ok (.aload_n 3, 1) := by decide +kernel
theorem dL_law_945 : decode cL_law 945 = .ok (.invokestatic 131, 3) := by decide +kernel
theorem dL_law_948 : decode cL_law 948 = .ok (.istore 5, 2) := by decide +kernel
theorem dL_law_950 : decode cL_law 950 = .ok (.aload_n 2, 1) := by decide +kernel
theorem dL_law_951 : decode cL_law 951 = .ok (.aload_n 0, 1) := by decide +kernel
theorem dL_law_952 : decode cL_law 952 = .ok (.iload 4, 2) := by decide +kernel
theorem dL_law_954 : decode cL_law 954 = .ok (.iconst 1, 1) := by decide +kernel
theorem dL_law_955 : decode cL_law 955 = .ok (.iadd, 1) := by decide +kernel
theorem dL_law_956 : decode cL_law 956 = .ok (.iaload, 1) := by decide +kernel
theorem dL_law_957 : decode cL_law 957 = .ok (.aload_n 0, 1) := by decide +kernel
theorem dL_law_958 : decode cL_law 958 = .ok (.iload 4, 2) := by decide +kernel
theorem dL_law_960 : decode cL_law 960 = .ok (.iconst 2, 1) := by decide +kernel
theorem dL_law_961 : decode cL_law 961 = .ok (.iadd, 1) := by decide +kernel
theorem dL_law_962 : decode cL_law 962 = .ok (.iaload, 1) := by decide +kernel
theorem dL_law_963 : decode cL_law 963 = .ok (.invokevirtual 133, 3) := by decide +kernel
theorem dL_law_966 : decode cL_law 966 = .ok (.istore 6, 2) := by decide +kernel
theorem dL_law_968 : decode cL_law 968 = .ok (.aload_n 2, 1) := by decide +kernel
theorem dL_law_969 : decode cL_law 969 = .ok (.invokevirtual 91, 3) := by decide +kernel
theorem dL_law_972 : decode cL_law 972 = .ok (.iload 5, 2) := by decide +kernel
theorem dL_law_974 : decode cL_law 974 = .ok (.if_icmp .eq 5, 3) := by decide +kernel
theorem dL_law_977 : decode cL_law 977 = .ok (.iconst 0, 1) := by decide +kernel
theorem dL_law_978 : decode cL_law 978 = .ok (.ireturn, 1) := by decide +kernel
theorem dL_law_979 : decode cL_law 979 = .ok (.iload 5, 2) := by decide +kernel
theorem dL_law_981 : decode cL_law 981 = .ok (.ifCond .ne 15, 3) := by decide +kernel
theorem dL_law_984 : decode cL_law 984 = .ok (.aload_n 3, 1) := by decide +kernel
theorem dL_law_985 : decode cL_law 985 = .ok (.iconst 0, 1) := by decide +kernel
theorem dL_law_986 : decode cL_law 986 = .ok (.laload, 1) := by decide +kernel
theorem dL_law_987 : decode cL_law 987 = .ok (.iload 6, 2) := by decide +kernel
theorem dL_law_989 : decode cL_law 989 = .ok (.i2l, 1) := by decide +kernel
theorem dL_law_990 : decode cL_law 990 = .ok (.lcmp, 1) := by decide +kernel
theorem dL_law_991 : decode cL_law 991 = .ok (.ifCond .eq 5, 3) := by decide +kernel
theorem dL_law_994 : decode cL_law 994 = .ok (.iconst 0, 1) := by decide +kernel
theorem dL_law_995 : decode cL_law 995 = .ok (.ireturn, 1) := by decide +kernel
theorem dL_law_996 : decode cL_law 996 = .ok (.goto 457, 3) := by decide +kernel
theorem dL_law_999 : decode cL_law 999 = .ok (.aload_n 1, 1) := by decide +kernel
theorem dL_law_1000 : decode cL_law 1000 = .ok (.aload_n 0, 1) := by decide +kernel
theorem dL_law_1001 : decode cL_law 1001 = .ok (.iload 4, 2) := by decide +kernel
theorem dL_law_1003 : decode cL_law 1003 = .ok (.iconst 1, 1) := by decide +kernel
theorem dL_law_1004 : decode cL_law 1004 = .ok (.iadd, 1) := by decide +kernel
theorem dL_law_1005 : decode cL_law 1005 = .ok (.iaload, 1) := by decide +kernel
theorem dL_law_1006 : decode cL_law 1006 = .ok (.aload_n 0, 1) := by decide +kernel
theorem dL_law_1007 : decode cL_law 1007 = .ok (.iload 4, 2) := by decide +kernel
theorem dL_law_1009 : decode cL_law 1009 = .ok (.iconst 2, 1) := by decide +kernel
theorem dL_law_1010 : decode cL_law 1010 = .ok (.iadd, 1) := by decide +kernel
theorem dL_law_1011 : decode cL_law 1011 = .ok (.iaload, 1) := by decide +kernel
theorem dL_law_1012 : decode cL_law 1012 = .ok (.aload_n 3, 1) := by decide +kernel
theorem dL_law_1013 : decode cL_law 1013 = .ok (.invokestatic 134, 3) := by decide +kernel
theorem dL_law_1016 : decode cL_law 1016 = .ok (.istore 5, 2) := by decide +kernel
theorem dL_law_1018 : decode cL_law 1018 = .ok (.aload_n 2, 1) := by decide +kernel
theorem dL_law_1019 : decode cL_law 1019 = .ok (.aload_n 0, 1) := by decide +kernel
theorem dL_law_1020 : decode cL_law 1020 = .ok (.iload 4, 2) := by decide +kernel
theorem dL_law_1022 : decode cL_law 1022 = .ok (.iconst 1, 1) := by decide +kernel
theorem dL_law_1023 : decode cL_law 1023 = .ok (.iadd, 1) := by decide +kernel
theorem dL_law_1024 : decode cL_law 1024 = .ok (.iaload, 1) := by decide +kernel
theorem dL_law_1025 : decode cL_law 1025 = .ok (.aload_n 0, 1) := by decide +kernel
theorem dL_law_1026 : decode cL_law 1026 = .ok (.iload 4, 2) := by decide +kernel
theorem dL_law_1028 : decode cL_law 1028 = .ok (.iconst 2, 1) := by decide +kernel
theorem dL_law_1029 : decode cL_law 1029 = .ok (.iadd, 1) := by decide +kernel
theorem dL_law_1030 : decode cL_law 1030 = .ok (.iaload, 1) := by decide +kernel
theorem dL_law_1031 : decode cL_law 1031 = .ok (.invokevirtual 136, 3) := by decide +kernel
theorem dL_law_1034 : decode cL_law 1034 = .ok (.istore 6, 2) := by decide +kernel
theorem dL_law_1036 : decode cL_law 1036 = .ok (.aload_n 2, 1) := by decide +kernel
theorem dL_law_1037 : decode cL_law 1037 = .ok (.invokevirtual 91, 3) := by decide +kernel
theorem dL_law_1040 : decode cL_law 1040 = .ok (.iload 5, 2) := by decide +kernel
theorem dL_law_1042 : decode cL_law 1042 = .ok (.if_icmp .eq 5, 3) := by decide +kernel
theorem dL_law_1045 : decode cL_law 1045 = .ok (.iconst 0, 1) := by decide +kernel
theorem dL_law_1046 : decode cL_law 1046 = .ok (.ireturn, 1) := by decide +kernel
theorem dL_law_1047 : decode cL_law 1047 = .ok (.iload 5, 2) := by decide +kernel
theorem dL_law_1049 : decode cL_law 1049 = .ok (.ifCond .ne 15, 3) := by decide +kernel
theorem dL_law_1052 : decode cL_law 1052 = .ok (.aload_n 3, 1) := by decide +kernel
theorem dL_law_1053 : decode cL_law 1053 = .ok (.iconst 0, 1) := by decide +kernel
theorem dL_law_1054 : decode cL_law 1054 = .ok (.laload, 1) := by decide +kernel
theorem dL_law_1055 : decode cL_law 1055 = .ok (.iload 6, 2) := by decide +kernel
theorem dL_law_1057 : decode cL_law 1057 = .ok (.i2l, 1) := by decide +kernel
theorem dL_law_1058 : decode cL_law 1058 = .ok (.lcmp, 1) := by decide +kernel
theorem dL_law_1059 : decode cL_law 1059 = .ok (.ifCond .eq 5, 3) := by decide +kernel
theorem dL_law_1062 : decode cL_law 1062 = .ok (.iconst 0, 1) := by decide +kernel
theorem dL_law_1063 : decode cL_law 1063 = .ok (.ireturn, 1) := by decide +kernel
theorem dL_law_1064 : decode cL_law 1064 = .ok (.goto 389, 3) := by decide +kernel
theorem dL_law_1067 : decode cL_law 1067 = .ok (.aload_n 1, 1) := by decide +kernel
theorem dL_law_1068 : decode cL_law 1068 = .ok (.aload_n 0, 1) := by decide +kernel
theorem dL_law_1069 : decode cL_law 1069 = .ok (.iload 4, 2) := by decide +kernel
theorem dL_law_1071 : decode cL_law 1071 = .ok (.iconst 1, 1) := by decide +kernel
theorem dL_law_1072 : decode cL_law 1072 = .ok (.iadd, 1) := by decide +kernel
theorem dL_law_1073 : decode cL_law 1073 = .ok (.iaload, 1) := by decide +kernel
theorem dL_law_1074 : decode cL_law 1074 = .ok (.aload_n 0, 1) := by decide +kernel
theorem dL_law_1075 : decode cL_law 1075 = .ok (.iload 4, 2) := by decide +kernel
theorem dL_law_1077 : decode cL_law 1077 = .ok (.iconst 2, 1) := by decide +kernel
theorem dL_law_1078 : decode cL_law 1078 = .ok (.iadd, 1) := by decide +kernel
theorem dL_law_1079 : decode cL_law 1079 = .ok (.iaload, 1) := by decide +kernel
theorem dL_law_1080 : decode cL_law 1080 = .ok (.aload_n 3, 1) := by decide +kernel
theorem dL_law_1081 : decode cL_law 1081 = .ok (.invokestatic 137, 3) := by decide +kernel
theorem dL_law_1084 : decode cL_law 1084 = .ok (.istore 5, 2) := by decide +kernel
theorem dL_law_1086 : decode cL_law 1086 = .ok (.aload_n 2, 1) := by decide +kernel
theorem dL_law_1087 : decode cL_law 1087 = .ok (.aload_n 0, 1) := by decide +kernel
theorem dL_law_1088 : decode cL_law 1088 = .ok (.iload 4, 2) := by decide +kernel
theorem dL_law_1090 : decode cL_law 1090 = .ok (.iconst 1, 1) := by decide +kernel
theorem dL_law_1091 : decode cL_law 1091 = .ok (.iadd, 1) := by decide +kernel
theorem dL_law_1092 : decode cL_law 1092 = .ok (.iaload, 1) := by decide +kernel
theorem dL_law_1093 : decode cL_law 1093 = .ok (.aload_n 0, 1) := by decide +kernel
theorem dL_law_1094 : decode cL_law 1094 = .ok (.iload 4, 2) := by decide +kernel
theorem dL_law_1096 : decode cL_law 1096 = .ok (.iconst 2, 1) := by decide +kernel
theorem dL_law_1097 : decode cL_law 1097 = .ok (.iadd, 1) := by decide +kernel
theorem dL_law_1098 : decode cL_law 1098 = .ok (.iaload, 1) := by decide +kernel
theorem dL_law_1099 : decode cL_law 1099 = .ok (.invokevirtual 139, 3) := by decide +kernel
theorem dL_law_1102 : decode cL_law 1102 = .ok (.istore 6, 2) := by decide +kernel
theorem dL_law_1104 : decode cL_law 1104 = .ok (.aload_n 2, 1) := by decide +kernel
theorem dL_law_1105 : decode cL_law 1105 = .ok (.invokevirtual 91, 3) := by decide +kernel
theorem dL_law_1108 : decode cL_law 1108 = .ok (.iload 5, 2) := by decide +kernel
theorem dL_law_1110 : decode cL_law 1110 = .ok (.if_icmp .eq 5, 3) := by decide +kernel
theorem dL_law_1113 : decode cL_law 1113 = .ok (.iconst 0, 1) := by decide +kernel
theorem dL_law_1114 : decode cL_law 1114 = .ok (.ireturn, 1) := by decide +kernel
theorem dL_law_1115 : decode cL_law 1115 = .ok (.iload 5, 2) := by decide +kernel
theorem dL_law_1117 : decode cL_law 1117 = .ok (.ifCond .ne 15, 3) := by decide +kernel
theorem dL_law_1120 : decode cL_law 1120 = .ok (.aload_n 3, 1) := by decide +kernel
theorem dL_law_1121 : decode cL_law 1121 = .ok (.iconst 0, 1) := by decide +kernel
theorem dL_law_1122 : decode cL_law 1122 = .ok (.laload, 1) := by decide +kernel
theorem dL_law_1123 : decode cL_law 1123 = .ok (.iload 6, 2) := by decide +kernel
theorem dL_law_1125 : decode cL_law 1125 = .ok (.i2l, 1) := by decide +kernel
theorem dL_law_1126 : decode cL_law 1126 = .ok (.lcmp, 1) := by decide +kernel
theorem dL_law_1127 : decode cL_law 1127 = .ok (.ifCond .eq 5, 3) := by decide +kernel
theorem dL_law_1130 : decode cL_law 1130 = .ok (.iconst 0, 1) := by decide +kernel
theorem dL_law_1131 : decode cL_law 1131 = .ok (.ireturn, 1) := by decide +kernel
theorem dL_law_1132 : decode cL_law 1132 = .ok (.goto 321, 3) := by decide +kernel
theorem dL_law_1135 : decode cL_law 1135 = .ok (.aload_n 1, 1) := by decide +kernel
theorem dL_law_1136 : decode cL_law 1136 = .ok (.aload_n 0, 1) := by decide +kernel
theorem dL_law_1137 : decode cL_law 1137 = .ok (.iload 4, 2) := by decide +kernel
theorem dL_law_1139 : decode cL_law 1139 = .ok (.iconst 1, 1) := by decide +kernel
theorem dL_law_1140 : decode cL_law 1140 = .ok (.iadd, 1) := by decide +kernel
theorem dL_law_1141 : decode cL_law 1141 = .ok (.iaload, 1) := by decide +kernel
theorem dL_law_1142 : decode cL_law 1142 = .ok (.aload_n 3, 1) := by decide +kernel
theorem dL_law_1143 : decode cL_law 1143 = .ok (.invokestatic 140, 3) := by decide +kernel
theorem dL_law_1146 : decode cL_law 1146 = .ok (.istore 5, 2) := by decide +kernel
theorem dL_law_1148 : decode cL_law 1148 = .ok (.aload_n 2, 1) := by decide +kernel
theorem dL_law_1149 : decode cL_law 1149 = .ok (.aload_n 0, 1) := by decide +kernel
theorem dL_law_1150 : decode cL_law 1150 = .ok (.iload 4, 2) := by decide +kernel
theorem dL_law_1152 : decode cL_law 1152 = .ok (.iconst 1, 1) := by decide +kernel
theorem dL_law_1153 : decode cL_law 1153 = .ok (.iadd, 1) := by decide +kernel
theorem dL_law_1154 : decode cL_law 1154 = .ok (.iaload, 1) := by decide +kernel
theorem dL_law_1155 : decode cL_law 1155 = .ok (.invokevirtual 142, 3) := by decide +kernel
theorem dL_law_1158 : decode cL_law 1158 = .ok (.istore 6, 2) := by decide +kernel
theorem dL_law_1160 : decode cL_law 1160 = .ok (.aload_n 2, 1) := by decide +kernel
theorem dL_law_1161 : decode cL_law 1161 = .ok (.invokevirtual 91, 3) := by decide +kernel
theorem dL_law_1164 : decode cL_law 1164 = .ok (.iload 5, 2) := by decide +kernel
theorem dL_law_1166 : decode cL_law 1166 = .ok (.if_icmp .eq 5, 3) := by decide +kernel
theorem dL_law_1169 : decode cL_law 1169 = .ok (.iconst 0, 1) := by decide +kernel
theorem dL_law_1170 : decode cL_law 1170 = .ok (.ireturn, 1) := by decide +kernel
theorem dL_law_1171 : decode cL_law 1171 = .ok (.iload 5, 2) := by decide +kernel
theorem dL_law_1173 : decode cL_law 1173 = .ok (.ifCond .ne 15, 3) := by decide +kernel
theorem dL_law_1176 : decode cL_law 1176 = .ok (.aload_n 3, 1) := by decide +kernel
theorem dL_law_1177 : decode cL_law 1177 = .ok (.iconst 0, 1) := by decide +kernel
theorem dL_law_1178 : decode cL_law 1178 = .ok (.laload, 1) := by decide +kernel
theorem dL_law_1179 : decode cL_law 1179 = .ok (.iload 6, 2) := by decide +kernel
theorem dL_law_1181 : decode cL_law 1181 = .ok (.i2l, 1) := by decide +kernel
theorem dL_law_1182 : decode cL_law 1182 = .ok (.lcmp, 1) := by decide +kernel
theorem dL_law_1183 : decode cL_law 1183 = .ok (.ifCond .eq 5, 3) := by decide +kernel
theorem dL_law_1186 : decode cL_law 1186 = .ok (.iconst 0, 1) := by decide +kernel
theorem dL_law_1187 : decode cL_law 1187 = .ok (.ireturn, 1) := by decide +kernel
theorem dL_law_1188 : decode cL_law 1188 = .ok (.goto 265, 3) := by decide +kernel
theorem dL_law_1191 : decode cL_law 1191 = .ok (.aload_n 1, 1) := by decide +kernel
theorem dL_law_1192 : decode cL_law 1192 = .ok (.invokevirtual 143, 3) := by decide +kernel
theorem dL_law_1195 : decode cL_law 1195 = .ok (.aload_n 2, 1) := by decide +kernel
theorem dL_law_1196 : decode cL_law 1196 = .ok (.invokevirtual 146, 3) := by decide +kernel
theorem dL_law_1199 : decode cL_law 1199 = .ok (.if_icmp .eq 254, 3) := by decide +kernel
theorem dL_law_1202 : decode cL_law 1202 = .ok (.iconst 0, 1) := by decide +kernel
theorem dL_law_1203 : decode cL_law 1203 = .ok (.ireturn, 1) := by decide +kernel
theorem dL_law_1204 : decode cL_law 1204 = .ok (.aload_n 1, 1) := by decide +kernel
theorem dL_law_1205 : decode cL_law 1205 = .ok (.aload_n 0, 1) := by decide +kernel
theorem dL_law_1206 : decode cL_law 1206 = .ok (.iload 4, 2) := by decide +kernel
theorem dL_law_1208 : decode cL_law 1208 = .ok (.iconst 1, 1) := by decide +kernel
theorem dL_law_1209 : decode cL_law 1209 = .ok (.iadd, 1) := by decide +kernel
theorem dL_law_1210 : decode cL_law 1210 = .ok (.iaload, 1) := by decide +kernel
theorem dL_law_1211 : decode cL_law 1211 = .ok (.aload_n 0, 1) := by decide +kernel
theorem dL_law_1212 : decode cL_law 1212 = .ok (.iload 4, 2) := by decide +kernel
theorem dL_law_1214 : decode cL_law 1214 = .ok (.iconst 2, 1) := by decide +kernel
theorem dL_law_1215 : decode cL_law 1215 = .ok (.iadd, 1) := by decide +kernel
theorem dL_law_1216 : decode cL_law 1216 = .ok (.iaload, 1) := by decide +kernel
theorem dL_law_1217 : decode cL_law 1217 = .ok (.aload_n 3, 1) := by decide +kernel
theorem dL_law_1218 : decode cL_law 1218 = .ok (.invokestatic 147, 3) := by decide +kernel
theorem dL_law_1221 : decode cL_law 1221 = .ok (.istore 5, 2) := by decide +kernel
theorem dL_law_1223 : decode cL_law 1223 = .ok (.aload_n 2, 1) := by decide +kernel
theorem dL_law_1224 : decode cL_law 1224 = .ok (.aload_n 0, 1) := by decide +kernel
theorem dL_law_1225 : decode cL_law 1225 = .ok (.iload 4, 2) := by decide +kernel
theorem dL_law_1227 : decode cL_law 1227 = .ok (.iconst 1, 1) := by decide +kernel
theorem dL_law_1228 : decode cL_law 1228 = .ok (.iadd, 1) := by decide +kernel
theorem dL_law_1229 : decode cL_law 1229 = .ok (.iaload, 1) := by decide +kernel
theorem dL_law_1230 : decode cL_law 1230 = .ok (.aload_n 0, 1) := by decide +kernel
theorem dL_law_1231 : decode cL_law 1231 = .ok (.iload 4, 2) := by decide +kernel
theorem dL_law_1233 : decode cL_law 1233 = .ok (.iconst 2, 1) := by decide +kernel
theorem dL_law_1234 : decode cL_law 1234 = .ok (.iadd, 1) := by decide +kernel
theorem dL_law_1235 : decode cL_law 1235 = .ok (.iaload, 1) := by decide +kernel
theorem dL_law_1236 : decode cL_law 1236 = .ok (.invokevirtual 149, 3) := by decide +kernel
theorem dL_law_1239 : decode cL_law 1239 = .ok (.istore 6, 2) := by decide +kernel
theorem dL_law_1241 : decode cL_law 1241 = .ok (.aload_n 2, 1) := by decide +kernel
theorem dL_law_1242 : decode cL_law 1242 = .ok (.invokevirtual 91, 3) := by decide +kernel
theorem dL_law_1245 : decode cL_law 1245 = .ok (.iload 5, 2) := by decide +kernel
theorem dL_law_1247 : decode cL_law 1247 = .ok (.if_icmp .eq 5, 3) := by decide +kernel
theorem dL_law_1250 : decode cL_law 1250 = .ok (.iconst 0, 1) := by decide +kernel
theorem dL_law_1251 : decode cL_law 1251 = .ok (.ireturn, 1) := by decide +kernel
theorem dL_law_1252 : decode cL_law 1252 = .ok (.iload 5, 2) := by decide +kernel
theorem dL_law_1254 : decode cL_law 1254 = .ok (.ifCond .ne 15, 3) := by decide +kernel
theorem dL_law_1257 : decode cL_law 1257 = .ok (.aload_n 3, 1) := by decide +kernel
theorem dL_law_1258 : decode cL_law 1258 = .ok (.iconst 0, 1) := by decide +kernel
theorem dL_law_1259 : decode cL_law 1259 = .ok (.laload, 1) := by decide +kernel
theorem dL_law_1260 : decode cL_law 1260 = .ok (.iload 6, 2) := by decide +kernel
theorem dL_law_1262 : decode cL_law 1262 = .ok (.i2l, 1) := by decide +kernel
theorem dL_law_1263 : decode cL_law 1263 = .ok (.lcmp, 1) := by decide +kernel
theorem dL_law_1264 : decode cL_law 1264 = .ok (.ifCond .eq 5, 3) := by decide +kernel
theorem dL_law_1267 : decode cL_law 1267 = .ok (.iconst 0, 1) := by decide +kernel
theorem dL_law_1268 : decode cL_law 1268 = .ok (.ireturn, 1) := by decide +kernel
theorem dL_law_1269 : decode cL_law 1269 = .ok (.goto 184, 3) := by decide +kernel
theorem dL_law_1272 : decode cL_law 1272 = .ok (.aload_n 1, 1) := by decide +kernel
theorem dL_law_1273 : decode cL_law 1273 = .ok (.invokevirtual 150, 3) := by decide +kernel
theorem dL_law_1276 : decode cL_law 1276 = .ok (.aload_n 2, 1) := by decide +kernel
theorem dL_law_1277 : decode cL_law 1277 = .ok (.invokevirtual 153, 3) := by decide +kernel
theorem dL_law_1280 : decode cL_law 1280 = .ok (.if_icmp .eq 173, 3) := by decide +kernel
theorem dL_law_1283 : decode cL_law 1283 = .ok (.iconst 0, 1) := by decide +kernel
theorem dL_law_1284 : decode cL_law 1284 = .ok (.ireturn, 1) := by decide +kernel
theorem dL_law_1285 : decode cL_law 1285 = .ok (.aload_n 1, 1) := by decide +kernel
theorem dL_law_1286 : decode cL_law 1286 = .ok (.aload_n 0, 1) := by decide +kernel
theorem dL_law_1287 : decode cL_law 1287 = .ok (.iload 4, 2) := by decide +kernel
theorem dL_law_1289 : decode cL_law 1289 = .ok (.iconst 1, 1) := by decide +kernel
theorem dL_law_1290 : decode cL_law 1290 = .ok (.iadd, 1) := by decide +kernel
theorem dL_law_1291 : decode cL_law 1291 = .ok (.iaload, 1) := by decide +kernel
theorem dL_law_1292 : decode cL_law 1292 = .ok (.aload_n 3, 1) := by decide +kernel
theorem dL_law_1293 : decode cL_law 1293 = .ok (.invokestatic 154, 3) := by decide +kernel
theorem dL_law_1296 : decode cL_law 1296 = .ok (.istore 5, 2) := by decide +kernel
theorem dL_law_1298 : decode cL_law 1298 = .ok (.aload_n 2, 1) := by decide +kernel
theorem dL_law_1299 : decode cL_law 1299 = .ok (.aload_n 0, 1) := by decide +kernel
theorem dL_law_1300 : decode cL_law 1300 = .ok (.iload 4, 2) := by decide +kernel
theorem dL_law_1302 : decode cL_law 1302 = .ok (.iconst 1, 1) := by decide +kernel
theorem dL_law_1303 : decode cL_law 1303 = .ok (.iadd, 1) := by decide +kernel
theorem dL_law_1304 : decode cL_law 1304 = .ok (.iaload, 1) := by decide +kernel
theorem dL_law_1305 : decode cL_law 1305 = .ok (.invokevirtual 156, 3) := by decide +kernel
theorem dL_law_1308 : decode cL_law 1308 = .ok (.istore 6, 2) := by decide +kernel
theorem dL_law_1310 : decode cL_law 1310 = .ok (.aload_n 2, 1) := by decide +kernel
theorem dL_law_1311 : decode cL_law 1311 = .ok (.invokevirtual 91, 3) := by decide +kernel
theorem dL_law_1314 : decode cL_law 1314 = .ok (.iload 5, 2) := by decide +kernel
theorem dL_law_1316 : decode cL_law 1316 = .ok (.if_icmp .eq 5, 3) := by decide +kernel
theorem dL_law_1319 : decode cL_law 1319 = .ok (.iconst 0, 1) := by decide +kernel
theorem dL_law_1320 : decode cL_law 1320 = .ok (.ireturn, 1) := by decide +kernel
theorem dL_law_1321 : decode cL_law 1321 = .ok (.iload 5, 2) := by decide +kernel
theorem dL_law_1323 : decode cL_law 1323 = .ok (.ifCond .ne 15, 3) := by decide +kernel
theorem dL_law_1326 : decode cL_law 1326 = .ok (.aload_n 3, 1) := by decide +kernel
theorem dL_law_1327 : decode cL_law 1327 = .ok (.iconst 0, 1) := by decide +kernel
theorem dL_law_1328 : decode cL_law 1328 = .ok (.laload, 1) := by decide +kernel
theorem dL_law_1329 : decode cL_law 1329 = .ok (.iload 6, 2) := by decide +kernel
theorem dL_law_1331 : decode cL_law 1331 = .ok (.i2l, 1) := by decide +kernel
theorem dL_law_1332 : decode cL_law 1332 = .ok (.lcmp, 1) := by decide +kernel
theorem dL_law_1333 : decode cL_law 1333 = .ok (.ifCond .eq 5, 3) := by decide +kernel
theorem dL_law_1336 : decode cL_law 1336 = .ok (.iconst 0, 1) := by decide +kernel
theorem dL_law_1337 : decode cL_law 1337 = .ok (.ireturn, 1) := by decide +kernel
theorem dL_law_1338 : decode cL_law 1338 = .ok (.goto 115, 3) := by decide +kernel
theorem dL_law_1341 : decode cL_law 1341 = .ok (.aload_n 1, 1) := by decide +kernel
theorem dL_law_1342 : decode cL_law 1342 = .ok (.aload_n 0, 1) := by decide +kernel
theorem dL_law_1343 : decode cL_law 1343 = .ok (.iload 4, 2) := by decide +kernel
theorem dL_law_1345 : decode cL_law 1345 = .ok (.iconst 1, 1) := by decide +kernel
theorem dL_law_1346 : decode cL_law 1346 = .ok (.iadd, 1) := by decide +kernel
theorem dL_law_1347 : decode cL_law 1347 = .ok (.iaload, 1) := by decide +kernel
theorem dL_law_1348 : decode cL_law 1348 = .ok (.aload_n 3, 1) := by decide +kernel
theorem dL_law_1349 : decode cL_law 1349 = .ok (.invokestatic 157, 3) := by decide +kernel
theorem dL_law_1352 : decode cL_law 1352 = .ok (.istore 5, 2) := by decide +kernel
theorem dL_law_1354 : decode cL_law 1354 = .ok (.aload_n 2, 1) := by decide +kernel
theorem dL_law_1355 : decode cL_law 1355 = .ok (.aload_n 0, 1) := by decide +kernel
theorem dL_law_1356 : decode cL_law 1356 = .ok (.iload 4, 2) := by decide +kernel
theorem dL_law_1358 : decode cL_law 1358 = .ok (.iconst 1, 1) := by decide +kernel
theorem dL_law_1359 : decode cL_law 1359 = .ok (.iadd, 1) := by decide +kernel
theorem dL_law_1360 : decode cL_law 1360 = .ok (.iaload, 1) := by decide +kernel
theorem dL_law_1361 : decode cL_law 1361 = .ok (.invokevirtual 159, 3) := by decide +kernel
theorem dL_law_1364 : decode cL_law 1364 = .ok (.istore 6, 2) := by decide +kernel
theorem dL_law_1366 : decode cL_law 1366 = .ok (.aload_n 2, 1) := by decide +kernel
theorem dL_law_1367 : decode cL_law 1367 = .ok (.invokevirtual 91, 3) := by decide +kernel
theorem dL_law_1370 : decode cL_law 1370 = .ok (.iload 5, 2) := by decide +kernel
theorem dL_law_1372 : decode cL_law 1372 = .ok (.if_icmp .eq 5, 3) := by decide +kernel
theorem dL_law_1375 : decode cL_law 1375 = .ok (.iconst 0, 1) := by decide +kernel
theorem dL_law_1376 : decode cL_law 1376 = .ok (.ireturn, 1) := by decide +kernel
theorem dL_law_1377 : decode cL_law 1377 = .ok (.iload 5, 2) := by decide +kernel
theorem dL_law_1379 : decode cL_law 1379 = .ok (.ifCond .ne 15, 3) := by decide +kernel
theorem dL_law_1382 : decode cL_law 1382 = .ok (.aload_n 3, 1) := by decide +kernel
theorem dL_law_1383 : decode cL_law 1383 = .ok (.iconst 0, 1) := by decide +kernel
theorem dL_law_1384 : decode cL_law 1384 = .ok (.laload, 1) := by decide +kernel
theorem dL_law_1385 : decode cL_law 1385 = .ok (.iload 6, 2) := by decide +kernel
theorem dL_law_1387 : decode cL_law 1387 = .ok (.i2l, 1) := by decide +kernel
theorem dL_law_1388 : decode cL_law 1388 = .ok (.lcmp, 1) := by decide +kernel
theorem dL_law_1389 : decode cL_law 1389 = .ok (.ifCond .eq 5, 3) := by decide +kernel
theorem dL_law_1392 : decode cL_law 1392 = .ok (.iconst 0, 1) := by decide +kernel
theorem dL_law_1393 : decode cL_law 1393 = .ok (.ireturn, 1) := by decide +kernel
theorem dL_law_1394 : decode cL_law 1394 = .ok (.goto 59, 3) := by decide +kernel
theorem dL_law_1397 : decode cL_law 1397 = .ok (.aload_n 1, 1) := by decide +kernel
theorem dL_law_1398 : decode cL_law 1398 = .ok (.aload_n 0, 1) := by decide +kernel
theorem dL_law_1399 : decode cL_law 1399 = .ok (.iload 4, 2) := by decide +kernel
theorem dL_law_1401 : decode cL_law 1401 = .ok (.iconst 1, 1) := by decide +kernel
theorem dL_law_1402 : decode cL_law 1402 = .ok (.iadd, 1) := by decide +kernel
theorem dL_law_1403 : decode cL_law 1403 = .ok (.iaload, 1) := by decide +kernel
theorem dL_law_1404 : decode cL_law 1404 = .ok (.aload_n 3, 1) := by decide +kernel
theorem dL_law_1405 : decode cL_law 1405 = .ok (.invokestatic 160, 3) := by decide +kernel
theorem dL_law_1408 : decode cL_law 1408 = .ok (.istore 5, 2) := by decide +kernel
theorem dL_law_1410 : decode cL_law 1410 = .ok (.aload_n 2, 1) := by decide +kernel
theorem dL_law_1411 : decode cL_law 1411 = .ok (.aload_n 0, 1) := by decide +kernel
theorem dL_law_1412 : decode cL_law 1412 = .ok (.iload 4, 2) := by decide +kernel
theorem dL_law_1414 : decode cL_law 1414 = .ok (.iconst 1, 1) := by decide +kernel
theorem dL_law_1415 : decode cL_law 1415 = .ok (.iadd, 1) := by decide +kernel
theorem dL_law_1416 : decode cL_law 1416 = .ok (.iaload, 1) := by decide +kernel
theorem dL_law_1417 : decode cL_law 1417 = .ok (.invokevirtual 162, 3) := by decide +kernel
theorem dL_law_1420 : decode cL_law 1420 = .ok (.istore 6, 2) := by decide +kernel
theorem dL_law_1422 : decode cL_law 1422 = .ok (.aload_n 2, 1) := by decide +kernel
theorem dL_law_1423 : decode cL_law 1423 = .ok (.invokevirtual 91, 3) := by decide +kernel
theorem dL_law_1426 : decode cL_law 1426 = .ok (.iload 5, 2) := by decide +kernel
theorem dL_law_1428 : decode cL_law 1428 = .ok (.if_icmp .eq 5, 3) := by decide +kernel
theorem dL_law_1431 : decode cL_law 1431 = .ok (.iconst 0, 1) := by decide +kernel
theorem dL_law_1432 : decode cL_law 1432 = .ok (.ireturn, 1) := by decide +kernel
theorem dL_law_1433 : decode cL_law 1433 = .ok (.iload 5, 2) := by decide +kernel
theorem dL_law_1435 : decode cL_law 1435 = .ok (.ifCond .ne 15, 3) := by decide +kernel
theorem dL_law_1438 : decode cL_law 1438 = .ok (.aload_n 3, 1) := by decide +kernel
theorem dL_law_1439 : decode cL_law 1439 = .ok (.iconst 0, 1) := by decide +kernel
theorem dL_law_1440 : decode cL_law 1440 = .ok (.laload, 1) := by decide +kernel
theorem dL_law_1441 : decode cL_law 1441 = .ok (.iload 6, 2) := by decide +kernel
theorem dL_law_1443 : decode cL_law 1443 = .ok (.i2l, 1) := by decide +kernel
theorem dL_law_1444 : decode cL_law 1444 = .ok (.lcmp, 1) := by decide +kernel
theorem dL_law_1445 : decode cL_law 1445 = .ok (.ifCond .eq 5, 3) := by decide +kernel
theorem dL_law_1448 : decode cL_law 1448 = .ok (.iconst 0, 1) := by decide +kernel
theorem dL_law_1449 : decode cL_law 1449 = .ok (.ireturn, 1) := by decide +kernel
theorem dL_law_1450 : decode cL_law 1450 = .ok (.goto 3, 3) := by decide +kernel
theorem dL_law_1453 : decode cL_law 1453 = .ok (.iinc 4 6, 3) := by decide +kernel
theorem dL_law_1456 : decode cL_law 1456 = .ok (.goto (-1433), 3) := by decide +kernel
theorem dL_law_1459 : decode cL_law 1459 = .ok (.iconst 1, 1) := by decide +kernel
theorem dL_law_1460 : decode cL_law 1460 = .ok (.ireturn, 1) := by decide +kernel
end
section
/-! ===== the heap as functions: kinds, contents, how much is in use ===== -/
/-- of every address: what stands there (0 nothing known, 1 an object of class i, 2 an array of type i), its number i, its length, whose it is -/
abbrev bp_K : Type := Nat × Nat × Nat × Nat
/-- kinds, contents by address and place (an object's field k of class i at 32 i + k, an array's element j at 4096 + j), room in use -/
abbrev bp_H : Type := (Nat → bp_K) × (Nat → Nat → Value) × Nat
/-- launch, classes and slots, array classes, first address of our own, the empty array of the lists, the class object of Object[], the script -/
abbrev bp_X : Type := Launch × va_G × (Nat → ClassId) × Nat × Nat × Nat × Nat × Nat × (Nat → Int32)
abbrev bp_l (G : bp_X) : Launch := G.1
abbrev bp_D (G : bp_X) : va_G := G.2.1
abbrev bp_ca (G : bp_X) : Nat → ClassId := G.2.2.1
abbrev bp_B (G : bp_X) : Nat := G.2.2.2.1
abbrev bp_e0 (G : bp_X) : Nat := G.2.2.2.2.1
abbrev bp_mi (G : bp_X) : Nat := G.2.2.2.2.2.1
abbrev bp_sb (G : bp_X) : Nat := G.2.2.2.2.2.2.1
abbrev bp_sL (G : bp_X) : Nat := G.2.2.2.2.2.2.2.1
abbrev bp_xs (G : bp_X) : Nat → Int32 := G.2.2.2.2.2.2.2.2
abbrev bp_cl : List vw_C := [(RX0, TX0, 5), (RX1, TX1, 7), (RX2, TX2, 14), (RX3, TX3, 1), (RX4, TX4, 6), (RX5, TX5, 1), (RX6, TX6, 25), (RJx4a65c, TJx4a65c, 3)]
/-- the types of the array classes, by number -/
def bp_ty (i : Nat) : FieldType := match i with
  | 0 => .int
  | 1 => .boolean
  | 2 => .long
  | 3 => .object "java/lang/Object"
  | _ => .array .int
abbrev bp_tys (G : bp_X) : List (ClassId × FieldType) := [(bp_ca G 0, .int), (bp_ca G 1, .boolean), (bp_ca G 2, .long), (bp_ca G 3, .object "java/lang/Object"), (bp_ca G 4, .array .int)]
theorem bp_tys_at (G : bp_X) (i : Nat) (hi : i < 5) : (bp_tys G)[i]? = some (bp_ca G i, bp_ty i) := by
  match i, hi with
  | 0, _ => rfl
  | 1, _ => rfl
  | 2, _ => rfl
  | 3, _ => rfl
  | 4, _ => rfl
/-- cells and slots from an address on, together -/
def bp_us (b : Nat) (H : Heap) : Nat := ((H.toList.drop b).map (fun c : Cell => 1 + c.slots.size)).sum
theorem bp_us_split {L : List Cell} : (L.map (fun c : Cell => 1 + c.slots.size)).sum = L.length + (L.map (fun c : Cell => c.slots.size)).sum := by
  induction L with
  | nil => rfl
  | cons a l ih => simp only [List.map_cons, List.sum_cons, List.length_cons, ih]; omega
theorem bp_us_ext {b : Nat} {H H' : Heap} (hs : H'.size = H.size) (hq : ∀ (q : Nat) (c c' : Cell), H[q]? = some c → H'[q]? = some c' → c'.slots.size = c.slots.size) : bp_us b H' = bp_us b H := by
  unfold bp_us
  congr 1
  apply List.ext_getElem?
  intro i
  simp only [List.getElem?_map, List.getElem?_drop, Array.getElem?_toList]
  by_cases h : b + i < H.size
  · have h' : b + i < H'.size := by rw [hs]; exact h
    rw [Array.getElem?_eq_getElem h, Array.getElem?_eq_getElem h']
    simp only [Option.map_some]
    rw [hq (b + i) _ _ (Array.getElem?_eq_getElem h) (Array.getElem?_eq_getElem h')]
  · rw [Array.getElem?_eq_none (Nat.not_lt.mp h), Array.getElem?_eq_none (by rw [hs]; exact Nat.not_lt.mp h)]
theorem bp_us_push {b : Nat} {H H' : Heap} {cell : Cell} (hb : b ≤ H.size) (hs : H'.size = H.size + 1) (hc : H'[H.size]? = some cell) (hq : ∀ q : Nat, q < H.size → H'[q]? = H[q]?) : bp_us b H' = bp_us b H + (1 + cell.slots.size) := by
  have e : H'.toList = H.toList ++ [cell] := by
    apply List.ext_getElem?
    intro i
    rw [Array.getElem?_toList]
    rcases Nat.lt_trichotomy i H.size with h | h | h
    · rw [hq i h, List.getElem?_append_left (by simpa using h), Array.getElem?_toList]
    · subst h
      rw [hc, List.getElem?_append_right (by simp)]
      simp
    · rw [Array.getElem?_eq_none (by omega), List.getElem?_eq_none (by simp; omega)]
  unfold bp_us
  rw [e, List.drop_append_of_le_length (by simpa using hb)]
  simp
/-- two heaps, one grown out of the other: the room of the one and of what is new -/
theorem bp_us_grow {b : Nat} {H0 H : Heap} (hb : b ≤ H0.size) (hs : H0.size ≤ H.size) (hq : ∀ (q : Nat) (c : Cell), H0[q]? = some c → ∃ c' : Cell, H[q]? = some c' ∧ c'.slots.size = c.slots.size) :
    bp_us b H = bp_us b H0 + ((H.size - H0.size) + ((H.toList.drop H0.size).map (fun c : Cell => c.slots.size)).sum) := by
  have e1 : H.toList.drop b = (H.toList.take H0.size).drop b ++ H.toList.drop H0.size := by
    conv => lhs; rw [← List.take_append_drop H0.size H.toList]
    rw [List.drop_append_of_le_length (by simp; omega)]
  have e2 : ((H.toList.take H0.size).drop b).map (fun c : Cell => 1 + c.slots.size) = (H0.toList.drop b).map (fun c : Cell => 1 + c.slots.size) := by
    apply List.ext_getElem?
    intro i
    simp only [List.getElem?_map, List.getElem?_drop, Array.getElem?_toList, List.getElem?_take]
    by_cases h : b + i < H0.size
    · rw [if_pos h, Array.getElem?_eq_getElem h]
      obtain ⟨c', h1, h2⟩ := hq (b + i) _ (Array.getElem?_eq_getElem h)
      rw [h1]
      simp only [Option.map_some]
      rw [h2]
    · rw [if_neg h, Array.getElem?_eq_none (Nat.not_lt.mp h)]
  unfold bp_us
  rw [e1, List.map_append, List.sum_append, e2, bp_us_split (L := H.toList.drop H0.size)]
  congr 2
  simp
/-- a frame whose room is written anew: what its heap really takes -/
theorem bp_tight {p : Program} {l : Launch} {e : Env} {R : Room} {s : State} {m : MethodId} {args : Array Value} {below : List Frame} {meth : Method} {c : Code} {T : State} {locs : List Loc} {cells slots : Nat} (X : Stand p l e R s m args below meth c T locs cells slots)
    {b : Nat} (hb : b ≤ s.heap.size) : bp_us b s.heap ≤ bp_us b T.heap ∧ Stand p l e R s m args below meth c T locs (bp_us b T.heap - bp_us b s.heap) (bp_us b T.heap - bp_us b s.heap) := by
  obtain ⟨h1, h2, h3, h4, h5, h6⟩ := X.same
  have g := bp_us_grow (b := b) (H0 := s.heap) (H := T.heap) hb h2 (fun q c hc => by
    obtain ⟨c', e1, -, e3, -⟩ := h6 q c hc
    exact ⟨c', e1, e3⟩)
  refine ⟨by omega, { X with same := ⟨h1, h2, ?_, h4, ?_, h6⟩ }⟩
  · show T.heap.size ≤ _
    have : s.heap.size ≤ T.heap.size := h2
    omega
  · show ((T.heap.toList.drop s.heap.size).map (fun c : Cell => c.slots.size)).sum ≤ _
    omega
/-- what stands at an address -/
def bp_at (G : bp_X) (k : bp_K) (f : Nat → Value) (a : Nat) (H : Heap) : Prop :=
  (k.1 = 1 → bp_B G ≤ a ∧ ∃ r : vw_C, bp_cl[k.2.1]? = some r ∧ t_OB a ((bp_D G).1 k.2.1) r.2.2 ((bp_D G).2 k.2.1) H (fun j => f (32 * k.2.1 + j))) ∧
  (k.1 = 2 → bp_B G ≤ a ∧ k.2.1 < 5 ∧ H[a]? = some (arrV (bp_ca G k.2.1) k.2.2.1 (fun j => f (4096 + j))))
/-- all the room that a run may take -/
abbrev bp_max : Nat := 600000
/-- the heap is as the functions say -/
def bp_R (G : bp_X) (h : bp_H) (H : Heap) : Prop := (∀ a : Nat, bp_at G (h.1 a) (h.2.1 a) a H) ∧ bp_us (bp_B G) H ≤ h.2.2 ∧ h.2.2 ≤ bp_max ∧ bp_B G ≤ H.size
theorem bp_at.kept {G : bp_X} {k : bp_K} {f : Nat → Value} {a : Nat} {H H1 : Heap} (h : bp_at G k f a H) (hq : H1[a]? = H[a]?) : bp_at G k f a H1 := by
  refine ⟨fun e => ?_, fun e => ?_⟩
  · obtain ⟨h1, r, h2, h3⟩ := h.1 e
    exact ⟨h1, r, h2, h3.kept hq⟩
  · obtain ⟨h1, h2, h3⟩ := h.2 e
    exact ⟨h1, h2, hq.trans h3⟩
theorem bp_at.lt {G : bp_X} {k : bp_K} {f : Nat → Value} {a : Nat} {H : Heap} (h : bp_at G k f a H) (hk : k.1 = 1 ∨ k.1 = 2) : a < H.size := by
  rcases hk with e | e
  · obtain ⟨-, r, -, cell, h3, -⟩ := h.1 e
    exact (Array.getElem?_eq_some_iff.mp h3).1
  · obtain ⟨-, -, h3⟩ := h.2 e
    exact (Array.getElem?_eq_some_iff.mp h3).1
/-- a field or an element written -/
def bp_set (h : bp_H) (a k : Nat) (v : Value) : bp_H := (h.1, fun b j => if b = a ∧ j = k then v else h.2.1 b j, h.2.2)
/-- something new: its kind, its contents, its room -/
def bp_new (h : bp_H) (a : Nat) (k : bp_K) (f : Nat → Value) (n : Nat) : bp_H := (fun b => if b = a then k else h.1 b, fun b => if b = a then f else h.2.1 b, h.2.2 + n)
/-- room alone -/
def bp_more (h : bp_H) (n : Nat) : bp_H := (h.1, h.2.1, h.2.2 + n)
/-- whose an array is: a mark of ours -/
def bp_own (h : bp_H) (a o : Nat) : bp_H := (fun b => if b = a then ((h.1 b).1, (h.1 b).2.1, (h.1 b).2.2.1, o) else h.1 b, h.2.1, h.2.2)
theorem bp_R.own {G : bp_X} {h : bp_H} {H : Heap} {a o : Nat} : bp_R G (bp_own h a o) H ↔ bp_R G h H := by
  unfold bp_R
  have key : ∀ b : Nat, bp_at G ((bp_own h a o).1 b) ((bp_own h a o).2.1 b) b H ↔ bp_at G (h.1 b) (h.2.1 b) b H := by
    intro b
    unfold bp_own bp_at
    by_cases e : b = a <;> simp [e]
  constructor
  · rintro ⟨h1, h2⟩
    exact ⟨fun b => (key b).mp (h1 b), h2⟩
  · rintro ⟨h1, h2⟩
    exact ⟨fun b => (key b).mpr (h1 b), h2⟩
/-- behind a new cell -/
theorem bp_R.push {G : bp_X} {h : bp_H} {H H1 : Heap} {k : bp_K} {f : Nat → Value} {cell : Cell} {n : Nat} (hR : bp_R G h H) (hs : H1.size = H.size + 1) (hc : H1[H.size]? = some cell) (hq : ∀ q : Nat, q < H.size → H1[q]? = H[q]?)
    (hat : bp_at G k f H.size H1) (hn : 1 + cell.slots.size ≤ n) (hm : h.2.2 + n ≤ bp_max) : bp_R G (bp_new h H.size k f n) H1 ∧ (h.1 H.size).1 ≠ 1 ∧ (h.1 H.size).1 ≠ 2 := by
  obtain ⟨h1, h2, h3, h4⟩ := hR
  refine ⟨⟨fun a => ?_, ?_, hm, by omega⟩, fun e => ?_, fun e => ?_⟩
  · unfold bp_new
    by_cases e : a = H.size
    · subst e
      simpa using hat
    · simp only [e, if_false]
      by_cases e2 : (h.1 a).1 = 1 ∨ (h.1 a).1 = 2
      · exact (h1 a).kept (hq a ((h1 a).lt e2))
      · exact ⟨fun z => absurd (Or.inl z) e2, fun z => absurd (Or.inr z) e2⟩
  · show bp_us (bp_B G) H1 ≤ h.2.2 + n
    rw [bp_us_push h4 hs hc hq]
    omega
  · exact Nat.lt_irrefl _ ((h1 H.size).lt (Or.inl e))
  · exact Nat.lt_irrefl _ ((h1 H.size).lt (Or.inr e))
/-- behind a store in an object or an array -/
theorem bp_R.put {G : bp_X} {h : bp_H} {H H1 : Heap} {a k : Nat} {v : Value} (hR : bp_R G h H) (hs : H1.size = H.size) (hz : ∀ c c' : Cell, H[a]? = some c → H1[a]? = some c' → c'.slots.size = c.slots.size) (hq : ∀ q : Nat, q ≠ a → H1[q]? = H[q]?)
    (hat : bp_at G (h.1 a) (fun j => if j = k then v else h.2.1 a j) a H1) : bp_R G (bp_set h a k v) H1 := by
  obtain ⟨h1, h2, h3, h4⟩ := hR
  refine ⟨fun b => ?_, ?_, h3, by omega⟩
  · unfold bp_set
    by_cases e : b = a
    · subst e
      simpa using hat
    · simp only [e, false_and, if_false]
      exact (h1 b).kept (hq b e)
  · show bp_us (bp_B G) H1 ≤ h.2.2
    rw [bp_us_ext hs (fun q c c' e1 e2 => ?_)]
    · exact h2
    · by_cases e : q = a
      · subst e
        exact hz c c' e1 e2
      · rw [hq q e, e1] at e2
        cases e2
        rfl
theorem bp_R.more {G : bp_X} {h : bp_H} {H : Heap} {n : Nat} (hR : bp_R G h H) (hm : h.2.2 + n ≤ bp_max) : bp_R G (bp_more h n) H := ⟨hR.1, Nat.le_trans hR.2.1 (Nat.le_add_right _ _), hm, hR.2.2.2⟩
end
section
/-! ===== the judgement ===== -/
/-- the words that hold in every later state too -/
def bp_good (w : Cond) : Bool := goodWord w || (match w with
  | .castable _ _ => true
  | .declares _ => true
  | _ => false)
def bp_UW : List Cond := lw_tbl.filter bp_good
theorem bp_later {w : Cond} (hw : w ∈ bp_UW) {args a' : Array Value} {s U : State} (h : w.before args s = true) (hW : s.WarmedH U.vm) : w.before a' U = true := by
  have h1 : bp_good w = true := (List.mem_filter.mp hw).2
  unfold bp_good at h1
  rw [Bool.or_eq_true] at h1
  rcases h1 with h1 | h1
  · exact word_at hW (good_of_word h1) h
  · cases w <;> first | (exact va_Nw.use rfl (va_Nw.warmC hW (va_Nw.of rfl h))) | (exact va_Nw.use rfl (va_Nw.warmD hW (va_Nw.of rfl h))) | cases h1
/-- which classes of what is thrown don't fit which -/
def bp_ncs : List (String × String) := [("java/lang/IllegalArgumentException", "java/lang/IndexOutOfBoundsException"), ("java/lang/IllegalStateException", "java/lang/IndexOutOfBoundsException"), ("java/lang/IllegalStateException", "java/lang/IllegalArgumentException"), ("java/lang/IllegalArgumentException", "java/lang/IllegalStateException"), ("java/lang/IndexOutOfBoundsException", "java/lang/IllegalStateException"), ("java/lang/IndexOutOfBoundsException", "java/lang/IllegalArgumentException")]
def bp_strs : List (String × Nat × String) := [(RX5, 28, "there are 4 machines"), (RX5, 228, "no such machine"), (RX5, 46, "capacity is out of range"), (RX5, 53, "an operation needs more tools"), (RX5, 58, "from is out of range"), (RX5, 60, "to is out of range"), (RX5, 79, "due is out of range"), (RX5, 84, "there are 8 jobs"), (RX5, 230, "no such job"), (RX5, 95, "length is out of range"), (RX5, 97, "family is out of range"), (RX5, 99, "tools is out of range"), (RX5, 104, "the job has 4 operations"), (RX5, 109, "the job is placed"), (RX5, 117, "the magazine is too small for the tools"), (RX5, 125, "no such family"), (RX5, 128, "minutes is out of range"), (RX5, 237, "the job has no operations"), (RX5, 232, "the job is not placed"), (RX5, 171, "no such place or none behind it"), (RX5, 177, "the order would have a way round"), (RX5, 179, "no such place"), (RX5, 239, "no such operation")]
abbrev bp_A (G : bp_X) : Nat → Prop := fun q => bp_B G ≤ q
/-- what holds outside our own cells: classes, the empty array of the lists, what throws need, texts, the script -/
def bp_Fx (G : bp_X) (U : State) (H : Heap) : Prop :=
  va_K (bp_D G) bp_cl (bp_tys G) U ∧
  va_Z "java/util/ArrayList" "DEFAULTCAPACITY_EMPTY_ELEMENTDATA" "[Ljava/lang/Object;" (.ref (bp_e0 G)) (bp_A G) U H ∧
  va_T (.object "java/lang/Object") (bp_e0 G) 0 (fun _ => .null) (bp_A G) U H ∧
  vx_Zq Bundle.tN "UNASSIGNED_STACK" Bundle.steD (bp_A G) U H ∧ vx_Zq Bundle.tN "SUPPRESSED_SENTINEL" Bundle.listD (bp_A G) U H ∧
  (∀ q ∈ bp_strs, ∃ a : Nat, vk_R q.1 q.2.1 q.2.2 a U) ∧
  va_Mi "[Ljava/lang/Object;" (bp_mi G) U ∧ va_Dc U ∧ va_AO "java/lang/Object" U ∧ va_AOA .int U ∧
  va_X (bp_sb G) (bp_sL G) (bp_xs G) U H ∧ bp_sb G < bp_B G ∧ (bp_l G).stackTraces = false ∧ (∀ q ∈ bp_ncs, va_Nc q.1 q.2 U)
theorem va_AOA.moved {t : FieldType} {u U : State} (hvm : u.vm.Alike U.vm) (h : va_AOA t u) : va_AOA t U := by
  obtain ⟨comp, c, k, h1, h2, h3, h4, h5⟩ := arrayOverA_spec (show (Cond.arrayOver (.array t)).holds #[] _ none _ [] = true from h)
  obtain ⟨k', hk', he⟩ := hvm.2.2 _ _ h3
  have hi : (U.vm.classes.findIdx? fun (x : Class) => match x.kind with | .array component _ => component == comp | _ => false) = some c := by
    have hb : u.vm.bare = U.vm.bare := by first | exact hvm.bare_eq | exact hvm.bare_eq.symm
    have e1 := va_idx_bare U.vm comp
    have e2 := va_idx_bare u.vm comp
    rw [hb] at e2
    exact e1.symm.trans (e2.trans h2)
  have hkind : k'.kind = .array comp (.array t) := by rw [he]; exact h4
  have f1 : U.vm.findClass (FieldType.array t).toString = some comp := by rw [hvm.findClass]; exact h1
  have f2 : U.vm.findClass ("[" ++ (FieldType.array t).toString) = some c := by rw [hvm.findClass]; exact h5
  unfold va_AOA Cond.before Cond.holds
  simp only [Cond.value]
  rw [f1, Option.bind_some]
  refine (congrArg (fun o : Option Nat => (o.bind (fun c => (U.vm.classes[c]?).map fun (k : Class) => match k.kind with | .array _ ty => decide (ty = FieldType.array t) && decide (U.vm.findClass ("[" ++ (FieldType.array t).toString) = some c) | _ => false) == some true)) hi).trans ?_
  simp [hk', hkind, f2]
theorem bp_Fx.moved {G : bp_X} {U U' : State} {H H1 : Heap} (hW : U.WarmedH U'.vm) (hq : ∀ q : Nat, q < H.size → ¬ bp_A G q → H1[q]? = H[q]?) (h : bp_Fx G U H) : bp_Fx G U' H1 := by
  obtain ⟨h1, h2, h3, h4, h5, h6, h7, h8, h9, h10, h11, h12, h13, h14⟩ := h
  have hv := hW.alike
  refine ⟨va_K.moved hv h1, (h2.kept hq).moved hv, (h3.kept hq).moved hv, (h4.kept hq).moved hv, (h5.kept hq).moved hv, fun q hq => ?_, h7.moved hv, h8.moved hv, h9.moved hv, h10.moved hv, ?_, h12, h13, fun q hq => (h14 q hq).moved hv⟩
  · obtain ⟨a, ha⟩ := h6 q hq
    exact ⟨a, vk_R.warm hW ha⟩
  · refine (h11.kept ?_).moved hv
    obtain ⟨scr, e1, -⟩ := h11
    exact hq _ (Array.getElem?_eq_some_iff.mp e1).1 (Nat.not_le.mpr h12)
/-- a method: its class, its name, its code, its locals, its type, its table -/
abbrev bp_M : Type := String × MethodName × ByteArray × Nat × Option FieldType × List (Nat × Nat × Nat × Nat)
abbrev bp_own_ (M : bp_M) : String := M.1
abbrev bp_y (M : bp_M) : MethodName := M.2.1
abbrev bp_c (M : bp_M) : ByteArray := M.2.2.1
abbrev bp_n (M : bp_M) : Nat := M.2.2.2.1
abbrev bp_r (M : bp_M) : Option FieldType := M.2.2.2.2.1
abbrev bp_t (M : bp_M) : List (Nat × Nat × Nat × Nat) := M.2.2.2.2.2
/-- where the method stands: machine, code, words, what holds outside, room by its depth -/
def bp_C (G : bp_X) (M : bp_M) (d : Nat) (p : Program) (R : Room) (s : State) (m : MethodId) (args : Array Value) (meth : Method) (c : Code) : Prop :=
  p.tables.exec = Jvm.exec ∧ c.code = bp_c M ∧ c.maxLocals = bp_n M ∧ meth.sig.returnType = bp_r M ∧ s.vm.findClass (bp_own_ M) = some m.cls ∧ (∀ w ∈ bp_UW, w.before args s = true) ∧ meth.locks = false ∧ bp_Fx G s s.heap ∧
  (bp_B G ≤ s.heap.size ∧ bp_us (bp_B G) s.heap ≤ bp_max) ∧ c.exceptionTable.toList = tableOf (bp_t M) ∧ ((bp_y M).name = "<init>" → meth.name = "<init>") ∧
  (d ≤ R.frames ∧ 80 * d ≤ R.locals ∧ bp_max ≤ R.cells + bp_us (bp_B G) s.heap ∧ bp_max ≤ R.slots + bp_us (bp_B G) s.heap)
/-- how a method ends: a value, or the class of what it throws -/
abbrev bp_O : Type := Option Value ⊕ String
def bp_Qc (G : bp_X) (Φ : bp_O → bp_H → Prop) : Array Value → State → Outcome → State → Prop := fun _ st o t => ∃ (v : Option Value) (h' : bp_H), o = .returned v ∧ Φ (.inl v) h' ∧ bp_R G h' t.heap ∧ va_F (bp_A G) st t
def bp_XC (G : bp_X) (Φ : bp_O → bp_H → Prop) : String → State → State → Prop := fun E st t => ∃ h' : bp_H, Φ (.inr E) h' ∧ bp_R G h' t.heap ∧ va_F (bp_A G) st t
/-- from here, with these locals, this stack, this heap, the method ends as Φ says -/
def bp_W (G : bp_X) (M : bp_M) (d : Nat) (pc : Nat) (lv : List (Nat × Value)) (st : List Value) (h : bp_H) (Φ : bp_O → bp_H → Prop) : Prop :=
  ∀ (p : Program) (e : Env) (R : Room) (s : State) (m : MethodId) (args : Array Value) (below : List Frame) (meth : Method) (c : Code) (H : Heap) (locs : List Loc) (ls : Array Slot),
    bp_C G M d p R s m args meth c → bp_R G h H → va_S (bp_A G) s.heap H locs → lv_has ls (bp_n M) lv → bp_us (bp_B G) s.heap ≤ bp_us (bp_B G) H →
    W p (bp_l G) e R s m args below meth c H locs (bp_us (bp_B G) H - bp_us (bp_B G) s.heap) (bp_us (bp_B G) H - bp_us (bp_B G) s.heap)
      (vx_MQ below (bp_Qc G Φ) (bp_XC G Φ) args s (bp_max - bp_us (bp_B G) s.heap) (bp_max - bp_us (bp_B G) s.heap) (bp_A G)) (F0 m pc ls st)
theorem bp_look {lv : List (Nat × Value)} {i : Nat} {v : Value} (h : lv.lookup i = some v) : (i, v) ∈ lv := by
  induction lv with
  | nil => simp at h
  | cons q r ih =>
    obtain ⟨j, w⟩ := q
    rw [List.lookup_cons] at h
    by_cases e : i == j
    · rw [e] at h
      have e2 : i = j := by simpa using e
      subst e2
      have : w = v := by simpa using h
      subst this
      exact List.mem_cons_self
    · simp only [Bool.not_eq_true] at e
      rw [e] at h
      exact List.mem_cons_of_mem _ (ih h)
theorem bp_lk {ls : Array Slot} {nL : Nat} {lv : List (Nat × Value)} {i : Nat} {v : Value} (h : lv_has ls nL lv) (hk : lv.lookup i = some v) : ls[i]? = some (.val v) := h.2.2 (i, v) (bp_look hk)
/-- locals, with one written -/
def bp_st (lv : List (Nat × Value)) (i : Nat) (v : Value) : List (Nat × Value) := (i, v) :: lv.filter (fun q => !(q.1 == i) && !(q.1 + 1 == i && q.2.category == 2))
section BPR
variable {G : bp_X} {M : bp_M} {d pc : Nat} {lv : List (Nat × Value)} {st : List Value} {h : bp_H} {Φ : bp_O → bp_H → Prop}
/-- fewer locals, or in another order -/
theorem bp_lv {lv' : List (Nat × Value)} (hl : ∀ q ∈ lv', lv.lookup q.1 = some q.2) (k : bp_W G M d pc lv' st h Φ) : bp_W G M d pc lv st h Φ := by
  intro p e R s m args below meth c H locs ls hC hR hS hL hu
  exact k p e R s m args below meth c H locs ls hC hR hS ⟨hL.1, hL.2.1, fun q hq => bp_lk hL (hl q hq)⟩ hu
theorem bp_mono {Φ' : bp_O → bp_H → Prop} (hΦ : ∀ o h', Φ' o h' → Φ o h') (k : bp_W G M d pc lv st h Φ') : bp_W G M d pc lv st h Φ := by
  intro p e R s m args below meth c H locs ls hC hR hS hL hu T hT X
  obtain ⟨t, a1, o, b1, b2, b3⟩ := k p e R s m args below meth c H locs ls hC hR hS hL hu T hT X
  refine ⟨t, a1, o, b1, b2, ?_⟩
  rcases b3 with ⟨⟨v, h', c1, c2, c3⟩, b4⟩ | ⟨q, c0, E, ce, L, ⟨h', c1, c2⟩, b4⟩
  · exact Or.inl ⟨⟨v, h', c1, hΦ _ _ c2, c3⟩, b4⟩
  · exact Or.inr ⟨q, c0, E, ce, L, ⟨h', hΦ _ _ c1, c2⟩, b4⟩
/-- the heap's functions by other ones, where they say the same -/
theorem bp_heap {h2 : bp_H} (e : ∀ H, bp_R G h H → bp_R G h2 H) (k : bp_W G M d pc lv st h2 Φ) : bp_W G M d pc lv st h Φ := by
  intro p e1 R s m args below meth c H locs ls hC hR hS hL hu
  exact k p e1 R s m args below meth c H locs ls hC (e H hR) hS hL hu
theorem bp_eq {st2 : List Value} {h2 : bp_H} {lv2 : List (Nat × Value)} (k : bp_W G M d pc lv2 st2 h2 Φ) (e1 : lv = lv2) (e2 : st = st2) (e3 : h = h2) : bp_W G M d pc lv st h Φ := by
  subst e1; subst e2; subst e3; exact k
theorem bp_iconst {n : Int} {v : Int32} (hd : decode (bp_c M) pc = .ok (.iconst n, 1)) (hv : Int32.ofInt n = v) (k : bp_W G M d (pc + 1) lv (.int v :: st) h Φ) : bp_W G M d pc lv (st) h Φ := by
  intro p e R s m args below meth c H locs ls hC hR hS hL hu
  exact lv_iconst hC.1 hC.2.1 hd hv (k p e R s m args below meth c H locs ls hC hR hS hL hu)
theorem bp_bipush {n : Int} {v : Int32} (hd : decode (bp_c M) pc = .ok (.bipush n, 2)) (hv : (Int8.ofInt n).toInt32 = v) (k : bp_W G M d (pc + 2) lv (.int v :: st) h Φ) : bp_W G M d pc lv (st) h Φ := by
  intro p e R s m args below meth c H locs ls hC hR hS hL hu
  exact lv_bipush hC.1 hC.2.1 hd hv (k p e R s m args below meth c H locs ls hC hR hS hL hu)
theorem bp_sipush {n : Int} {v : Int32} (hd : decode (bp_c M) pc = .ok (.sipush n, 3)) (hv : (Int16.ofInt n).toInt32 = v) (k : bp_W G M d (pc + 3) lv (.int v :: st) h Φ) : bp_W G M d pc lv (st) h Φ := by
  intro p e R s m args below meth c H locs ls hC hR hS hL hu
  exact lv_sipush hC.1 hC.2.1 hd hv (k p e R s m args below meth c H locs ls hC hR hS hL hu)
theorem bp_lconst {n : Fin 2} {v : Int64} (hd : decode (bp_c M) pc = .ok (.lconst n, 1)) (hv : Int64.ofNat (n : Nat) = v) (k : bp_W G M d (pc + 1) lv (.long v :: st) h Φ) : bp_W G M d pc lv (st) h Φ := by
  intro p e R s m args below meth c H locs ls hC hR hS hL hu
  exact lv_lconst hC.1 hC.2.1 hd hv (k p e R s m args below meth c H locs ls hC hR hS hL hu)
theorem bp_null (hd : decode (bp_c M) pc = .ok (.aconst_null, 1)) (k : bp_W G M d (pc + 1) lv (.null :: st) h Φ) : bp_W G M d pc lv (st) h Φ := by
  intro p e R s m args below meth c H locs ls hC hR hS hL hu
  exact lv_null hC.1 hC.2.1 hd (k p e R s m args below meth c H locs ls hC hR hS hL hu)
theorem bp_iload_n {i : Fin 4} {x : Int32} (hd : decode (bp_c M) pc = .ok (.iload_n i, 1)) (hk : lv.lookup (i : Nat) = some (.int x)) (k : bp_W G M d (pc + 1) lv (.int x :: st) h Φ) : bp_W G M d pc lv (st) h Φ := by
  intro p e R s m args below meth c H locs ls hC hR hS hL hu
  exact lv_iload_n hC.1 hC.2.1 hd rfl (bp_lk hL hk) (k p e R s m args below meth c H locs ls hC hR hS hL hu)
theorem bp_iload {i : Nat} {x : Int32} (hd : decode (bp_c M) pc = .ok (.iload i, 2)) (hk : lv.lookup i = some (.int x)) (k : bp_W G M d (pc + 2) lv (.int x :: st) h Φ) : bp_W G M d pc lv (st) h Φ := by
  intro p e R s m args below meth c H locs ls hC hR hS hL hu
  exact lv_iload hC.1 hC.2.1 hd (bp_lk hL hk) (k p e R s m args below meth c H locs ls hC hR hS hL hu)
theorem bp_aload_n {i : Fin 4} {x : Nat} (hd : decode (bp_c M) pc = .ok (.aload_n i, 1)) (hk : lv.lookup (i : Nat) = some (.ref x)) (k : bp_W G M d (pc + 1) lv (.ref x :: st) h Φ) : bp_W G M d pc lv (st) h Φ := by
  intro p e R s m args below meth c H locs ls hC hR hS hL hu
  exact lv_aload_n hC.1 hC.2.1 hd rfl (bp_lk hL hk) (k p e R s m args below meth c H locs ls hC hR hS hL hu)
theorem bp_aload {i : Nat} {x : Nat} (hd : decode (bp_c M) pc = .ok (.aload i, 2)) (hk : lv.lookup i = some (.ref x)) (k : bp_W G M d (pc + 2) lv (.ref x :: st) h Φ) : bp_W G M d pc lv (st) h Φ := by
  intro p e R s m args below meth c H locs ls hC hR hS hL hu
  exact lv_aload hC.1 hC.2.1 hd (bp_lk hL hk) (k p e R s m args below meth c H locs ls hC hR hS hL hu)
theorem bp_aload_nN {i : Fin 4} (hd : decode (bp_c M) pc = .ok (.aload_n i, 1)) (hk : lv.lookup (i : Nat) = some .null) (k : bp_W G M d (pc + 1) lv (.null :: st) h Φ) : bp_W G M d pc lv (st) h Φ := by
  intro p e R s m args below meth c H locs ls hC hR hS hL hu
  exact lv_aload_nN hC.1 hC.2.1 hd rfl (bp_lk hL hk) (k p e R s m args below meth c H locs ls hC hR hS hL hu)
theorem bp_aloadN {i : Nat} (hd : decode (bp_c M) pc = .ok (.aload i, 2)) (hk : lv.lookup i = some .null) (k : bp_W G M d (pc + 2) lv (.null :: st) h Φ) : bp_W G M d pc lv (st) h Φ := by
  intro p e R s m args below meth c H locs ls hC hR hS hL hu
  exact lv_aloadN hC.1 hC.2.1 hd (bp_lk hL hk) (k p e R s m args below meth c H locs ls hC hR hS hL hu)
theorem bp_aload_nq {i : Fin 4} {r : Option Nat} (hd : decode (bp_c M) pc = .ok (.aload_n i, 1)) (hk : lv.lookup (i : Nat) = some (va_rf r)) (k : bp_W G M d (pc + 1) lv (va_rf r :: st) h Φ) : bp_W G M d pc lv st h Φ := by
  cases r with
  | none => exact bp_aload_nN hd hk k
  | some x => exact bp_aload_n hd hk k
theorem bp_aloadq {i : Nat} {r : Option Nat} (hd : decode (bp_c M) pc = .ok (.aload i, 2)) (hk : lv.lookup i = some (va_rf r)) (k : bp_W G M d (pc + 2) lv (va_rf r :: st) h Φ) : bp_W G M d pc lv st h Φ := by
  cases r with
  | none => exact bp_aloadN hd hk k
  | some x => exact bp_aload hd hk k
theorem bp_istore_n {i : Fin 4} {x : Int32} (hd : decode (bp_c M) pc = .ok (.istore_n i, 1)) (hi : (i : Nat) < bp_n M) (k : bp_W G M d (pc + 1) (bp_st lv (i : Nat) (.int x)) st h Φ) : bp_W G M d pc lv (.int x :: st) h Φ := by
  intro p e R s m args below meth c H locs ls hC hR hS hL hu
  exact lv_istore_n hC.1 hC.2.1 hd rfl hL hi rfl (fun ls' hL' => k p e R s m args below meth c H locs ls' hC hR hS hL' hu)
theorem bp_istore {i : Nat} {x : Int32} (hd : decode (bp_c M) pc = .ok (.istore i, 2)) (hi : i < bp_n M) (k : bp_W G M d (pc + 2) (bp_st lv i (.int x)) st h Φ) : bp_W G M d pc lv (.int x :: st) h Φ := by
  intro p e R s m args below meth c H locs ls hC hR hS hL hu
  exact lv_istore hC.1 hC.2.1 hd hL hi rfl (fun ls' hL' => k p e R s m args below meth c H locs ls' hC hR hS hL' hu)
theorem bp_astore_n {i : Fin 4} {x : Nat} (hd : decode (bp_c M) pc = .ok (.astore_n i, 1)) (hi : (i : Nat) < bp_n M) (k : bp_W G M d (pc + 1) (bp_st lv (i : Nat) (.ref x)) st h Φ) : bp_W G M d pc lv (.ref x :: st) h Φ := by
  intro p e R s m args below meth c H locs ls hC hR hS hL hu
  exact lv_astore_n hC.1 hC.2.1 hd rfl hL hi rfl (fun ls' hL' => k p e R s m args below meth c H locs ls' hC hR hS hL' hu)
theorem bp_astore {i : Nat} {x : Nat} (hd : decode (bp_c M) pc = .ok (.astore i, 2)) (hi : i < bp_n M) (k : bp_W G M d (pc + 2) (bp_st lv i (.ref x)) st h Φ) : bp_W G M d pc lv (.ref x :: st) h Φ := by
  intro p e R s m args below meth c H locs ls hC hR hS hL hu
  exact lv_astore hC.1 hC.2.1 hd hL hi rfl (fun ls' hL' => k p e R s m args below meth c H locs ls' hC hR hS hL' hu)
theorem bp_astore_nN {i : Fin 4} (hd : decode (bp_c M) pc = .ok (.astore_n i, 1)) (hi : (i : Nat) < bp_n M) (k : bp_W G M d (pc + 1) (bp_st lv (i : Nat) .null) st h Φ) : bp_W G M d pc lv (.null :: st) h Φ := by
  intro p e R s m args below meth c H locs ls hC hR hS hL hu
  exact lv_astore_nN hC.1 hC.2.1 hd rfl hL hi rfl (fun ls' hL' => k p e R s m args below meth c H locs ls' hC hR hS hL' hu)
theorem bp_astoreN {i : Nat} (hd : decode (bp_c M) pc = .ok (.astore i, 2)) (hi : i < bp_n M) (k : bp_W G M d (pc + 2) (bp_st lv i .null) st h Φ) : bp_W G M d pc lv (.null :: st) h Φ := by
  intro p e R s m args below meth c H locs ls hC hR hS hL hu
  exact lv_astoreN hC.1 hC.2.1 hd hL hi rfl (fun ls' hL' => k p e R s m args below meth c H locs ls' hC hR hS hL' hu)
theorem bp_astore_nq {i : Fin 4} {r : Option Nat} (hd : decode (bp_c M) pc = .ok (.astore_n i, 1)) (hi : (i : Nat) < bp_n M) (k : bp_W G M d (pc + 1) (bp_st lv (i : Nat) (va_rf r)) st h Φ) : bp_W G M d pc lv (va_rf r :: st) h Φ := by
  cases r with
  | none => exact bp_astore_nN hd hi k
  | some x => exact bp_astore_n hd hi k
theorem bp_astoreq {i : Nat} {r : Option Nat} (hd : decode (bp_c M) pc = .ok (.astore i, 2)) (hi : i < bp_n M) (k : bp_W G M d (pc + 2) (bp_st lv i (va_rf r)) st h Φ) : bp_W G M d pc lv (va_rf r :: st) h Φ := by
  cases r with
  | none => exact bp_astoreN hd hi k
  | some x => exact bp_astore hd hi k
theorem bp_look_at {i : Nat} {v : Value} (h : lv.lookup i = some v) : ∃ k : Nat, lv[k]? = some (i, v) := List.getElem?_of_mem (bp_look h)
theorem bp_iinc {i : Nat} {n : Int} {x v : Int32} (hd : decode (bp_c M) pc = .ok (.iinc i n, 3)) (hk : lv.lookup i = some (.int x)) (hi : i < bp_n M) (hv : x + Int32.ofInt n = v) (k : bp_W G M d (pc + 3) (bp_st lv i (.int v)) st h Φ) : bp_W G M d pc lv st h Φ := by
  intro p e R s m args below meth c H locs ls hC hR hS hL hu
  obtain ⟨j, hj⟩ := bp_look_at hk
  exact lv_iinc hC.1 hC.2.1 hd hL hj hv hi rfl (fun ls' hL' => k p e R s m args below meth c H locs ls' hC hR hS hL' hu)
theorem bp_iadd {x y : Int32} (hd : decode (bp_c M) pc = .ok (.iadd, 1)) (k : bp_W G M d (pc + 1) lv (.int (x + y) :: st) h Φ) : bp_W G M d pc lv (.int y :: .int x :: st) h Φ := by
  intro p e R s m args below meth c H locs ls hC hR hS hL hu
  exact lv_iadd hC.1 hC.2.1 hd (k p e R s m args below meth c H locs ls hC hR hS hL hu)
theorem bp_isub {x y : Int32} (hd : decode (bp_c M) pc = .ok (.isub, 1)) (k : bp_W G M d (pc + 1) lv (.int (x - y) :: st) h Φ) : bp_W G M d pc lv (.int y :: .int x :: st) h Φ := by
  intro p e R s m args below meth c H locs ls hC hR hS hL hu
  exact lv_isub hC.1 hC.2.1 hd (k p e R s m args below meth c H locs ls hC hR hS hL hu)
theorem bp_imul {x y : Int32} (hd : decode (bp_c M) pc = .ok (.imul, 1)) (k : bp_W G M d (pc + 1) lv (.int (x * y) :: st) h Φ) : bp_W G M d pc lv (.int y :: .int x :: st) h Φ := by
  intro p e R s m args below meth c H locs ls hC hR hS hL hu
  exact lv_imul hC.1 hC.2.1 hd (k p e R s m args below meth c H locs ls hC hR hS hL hu)
theorem bp_iand {x y : Int32} (hd : decode (bp_c M) pc = .ok (.iand, 1)) (k : bp_W G M d (pc + 1) lv (.int (x &&& y) :: st) h Φ) : bp_W G M d pc lv (.int y :: .int x :: st) h Φ := by
  intro p e R s m args below meth c H locs ls hC hR hS hL hu
  exact lv_iand hC.1 hC.2.1 hd (k p e R s m args below meth c H locs ls hC hR hS hL hu)
theorem bp_ior {x y : Int32} (hd : decode (bp_c M) pc = .ok (.ior, 1)) (k : bp_W G M d (pc + 1) lv (.int (x ||| y) :: st) h Φ) : bp_W G M d pc lv (.int y :: .int x :: st) h Φ := by
  intro p e R s m args below meth c H locs ls hC hR hS hL hu
  exact lv_ior hC.1 hC.2.1 hd (k p e R s m args below meth c H locs ls hC hR hS hL hu)
theorem bp_ixor {x y : Int32} (hd : decode (bp_c M) pc = .ok (.ixor, 1)) (k : bp_W G M d (pc + 1) lv (.int (x ^^^ y) :: st) h Φ) : bp_W G M d pc lv (.int y :: .int x :: st) h Φ := by
  intro p e R s m args below meth c H locs ls hC hR hS hL hu
  exact lv_ixor hC.1 hC.2.1 hd (k p e R s m args below meth c H locs ls hC hR hS hL hu)
theorem bp_ishl {x y : Int32} (hd : decode (bp_c M) pc = .ok (.ishl, 1)) (k : bp_W G M d (pc + 1) lv (.int (x <<< (y &&& 31)) :: st) h Φ) : bp_W G M d pc lv (.int y :: .int x :: st) h Φ := by
  intro p e R s m args below meth c H locs ls hC hR hS hL hu
  exact lv_ishl hC.1 hC.2.1 hd (k p e R s m args below meth c H locs ls hC hR hS hL hu)
theorem bp_ishr {x y : Int32} (hd : decode (bp_c M) pc = .ok (.ishr, 1)) (k : bp_W G M d (pc + 1) lv (.int (x >>> (y &&& 31)) :: st) h Φ) : bp_W G M d pc lv (.int y :: .int x :: st) h Φ := by
  intro p e R s m args below meth c H locs ls hC hR hS hL hu
  exact lv_ishr hC.1 hC.2.1 hd (k p e R s m args below meth c H locs ls hC hR hS hL hu)
theorem bp_idiv {x y : Int32} (hd : decode (bp_c M) pc = .ok (.idiv, 1)) (hy : ¬ y = 0) (k : bp_W G M d (pc + 1) lv (.int (x / y) :: st) h Φ) : bp_W G M d pc lv (.int y :: .int x :: st) h Φ := by
  intro p e R s m args below meth c H locs ls hC hR hS hL hu
  exact lv_idiv hC.1 hC.2.1 hd hy (k p e R s m args below meth c H locs ls hC hR hS hL hu)
theorem bp_irem {x y : Int32} (hd : decode (bp_c M) pc = .ok (.irem, 1)) (hy : ¬ y = 0) (k : bp_W G M d (pc + 1) lv (.int (x - x / y * y) :: st) h Φ) : bp_W G M d pc lv (.int y :: .int x :: st) h Φ := by
  intro p e R s m args below meth c H locs ls hC hR hS hL hu
  exact lv_irem hC.1 hC.2.1 hd hy (k p e R s m args below meth c H locs ls hC hR hS hL hu)
theorem bp_ineg {x : Int32} (hd : decode (bp_c M) pc = .ok (.ineg, 1)) (k : bp_W G M d (pc + 1) lv (.int (-x) :: st) h Φ) : bp_W G M d pc lv (.int x :: st) h Φ := by
  intro p e R s m args below meth c H locs ls hC hR hS hL hu
  exact lv_ineg hC.1 hC.2.1 hd (k p e R s m args below meth c H locs ls hC hR hS hL hu)
theorem bp_iushr {x y v : Int32} (hd : decode (bp_c M) pc = .ok (.iushr, 1)) (hv : (x.toUInt32 >>> (y.toUInt32 &&& Int32.toUInt32 31)).toInt32 = v) (k : bp_W G M d (pc + 1) lv (.int v :: st) h Φ) : bp_W G M d pc lv (.int y :: .int x :: st) h Φ := by
  intro p e R s m args below meth c H locs ls hC hR hS hL hu
  exact lv_iushr hC.1 hC.2.1 hd hv (k p e R s m args below meth c H locs ls hC hR hS hL hu)
theorem bp_i2l {x : Int32} (hd : decode (bp_c M) pc = .ok (.i2l, 1)) (k : bp_W G M d (pc + 1) lv (.long x.toInt64 :: st) h Φ) : bp_W G M d pc lv (.int x :: st) h Φ := by
  intro p e R s m args below meth c H locs ls hC hR hS hL hu
  exact lv_i2l hC.1 hC.2.1 hd rfl (k p e R s m args below meth c H locs ls hC hR hS hL hu)
theorem bp_lcmp {x y : Int64} (hd : decode (bp_c M) pc = .ok (.lcmp, 1)) (k : bp_W G M d (pc + 1) lv (.int (lg_cmp x y) :: st) h Φ) : bp_W G M d pc lv (.long y :: .long x :: st) h Φ := by
  intro p e R s m args below meth c H locs ls hC hR hS hL hu
  exact W.lcmp hC.1 hC.2.1 hd (k p e R s m args below meth c H locs ls hC hR hS hL hu)
theorem bp_dup {v : Value} (hd : decode (bp_c M) pc = .ok (.dup, 1)) (hv : v.category = 1) (k : bp_W G M d (pc + 1) lv (v :: v :: st) h Φ) : bp_W G M d pc lv (v :: st) h Φ := by
  intro p e R s m args below meth c H locs ls hC hR hS hL hu
  exact lv_dup hC.1 hC.2.1 hd hv (k p e R s m args below meth c H locs ls hC hR hS hL hu)
theorem bp_pop {v : Value} (hd : decode (bp_c M) pc = .ok (.pop, 1)) (hv : v.category = 1) (k : bp_W G M d (pc + 1) lv (st) h Φ) : bp_W G M d pc lv (v :: st) h Φ := by
  intro p e R s m args below meth c H locs ls hC hR hS hL hu
  exact lv_pop hC.1 hC.2.1 hd hv (k p e R s m args below meth c H locs ls hC hR hS hL hu)
theorem bp_dup2 {v w : Value} (hd : decode (bp_c M) pc = .ok (.dup2, 1)) (hv : v.category = 1) (hw : w.category = 1) (k : bp_W G M d (pc + 1) lv (v :: w :: v :: w :: st) h Φ) : bp_W G M d pc lv (v :: w :: st) h Φ := by
  intro p e R s m args below meth c H locs ls hC hR hS hL hu
  exact lv_dup2_11 hC.1 hC.2.1 hd hv hw (k p e R s m args below meth c H locs ls hC hR hS hL hu)
theorem bp_dup_x1 {v w : Value} (hd : decode (bp_c M) pc = .ok (.dup_x1, 1)) (hv : v.category = 1) (hw : w.category = 1) (k : bp_W G M d (pc + 1) lv (v :: w :: v :: st) h Φ) : bp_W G M d pc lv (v :: w :: st) h Φ := by
  intro p e R s m args below meth c H locs ls hC hR hS hL hu
  exact lv_dup_x1 hC.1 hC.2.1 hd hv hw (k p e R s m args below meth c H locs ls hC hR hS hL hu)
theorem bp_if_eq {x : Int32} {off : Int} {tgt : Nat} (hd : decode (bp_c M) pc = .ok (.ifCond .eq off, 3)) (ht : (pc : Int) + off = (tgt : Int)) (kt : x = 0 → bp_W G M d tgt lv st h Φ) (kf : ¬ x = 0 → bp_W G M d (pc + 3) lv st h Φ) : bp_W G M d pc lv (.int x :: st) h Φ := by
  intro p e R s m args below meth c H locs ls hC hR hS hL hu
  exact lv_if_eq hC.1 hC.2.1 hd ht (fun z => kt z p e R s m args below meth c H locs ls hC hR hS hL hu) (fun z => kf z p e R s m args below meth c H locs ls hC hR hS hL hu)
theorem bp_if_ne {x : Int32} {off : Int} {tgt : Nat} (hd : decode (bp_c M) pc = .ok (.ifCond .ne off, 3)) (ht : (pc : Int) + off = (tgt : Int)) (kt : ¬ x = 0 → bp_W G M d tgt lv st h Φ) (kf : x = 0 → bp_W G M d (pc + 3) lv st h Φ) : bp_W G M d pc lv (.int x :: st) h Φ := by
  intro p e R s m args below meth c H locs ls hC hR hS hL hu
  exact lv_if_ne hC.1 hC.2.1 hd ht (fun z => kt z p e R s m args below meth c H locs ls hC hR hS hL hu) (fun z => kf z p e R s m args below meth c H locs ls hC hR hS hL hu)
theorem bp_if_lt {x : Int32} {off : Int} {tgt : Nat} (hd : decode (bp_c M) pc = .ok (.ifCond .lt off, 3)) (ht : (pc : Int) + off = (tgt : Int)) (kt : x < 0 → bp_W G M d tgt lv st h Φ) (kf : ¬ x < 0 → bp_W G M d (pc + 3) lv st h Φ) : bp_W G M d pc lv (.int x :: st) h Φ := by
  intro p e R s m args below meth c H locs ls hC hR hS hL hu
  exact lv_if_lt hC.1 hC.2.1 hd ht (fun z => kt z p e R s m args below meth c H locs ls hC hR hS hL hu) (fun z => kf z p e R s m args below meth c H locs ls hC hR hS hL hu)
theorem bp_if_ge {x : Int32} {off : Int} {tgt : Nat} (hd : decode (bp_c M) pc = .ok (.ifCond .ge off, 3)) (ht : (pc : Int) + off = (tgt : Int)) (kt : 0 ≤ x → bp_W G M d tgt lv st h Φ) (kf : ¬ 0 ≤ x → bp_W G M d (pc + 3) lv st h Φ) : bp_W G M d pc lv (.int x :: st) h Φ := by
  intro p e R s m args below meth c H locs ls hC hR hS hL hu
  exact lv_if_ge hC.1 hC.2.1 hd ht (fun z => kt z p e R s m args below meth c H locs ls hC hR hS hL hu) (fun z => kf z p e R s m args below meth c H locs ls hC hR hS hL hu)
theorem bp_if_gt {x : Int32} {off : Int} {tgt : Nat} (hd : decode (bp_c M) pc = .ok (.ifCond .gt off, 3)) (ht : (pc : Int) + off = (tgt : Int)) (kt : 0 < x → bp_W G M d tgt lv st h Φ) (kf : ¬ 0 < x → bp_W G M d (pc + 3) lv st h Φ) : bp_W G M d pc lv (.int x :: st) h Φ := by
  intro p e R s m args below meth c H locs ls hC hR hS hL hu
  exact lv_if_gt hC.1 hC.2.1 hd ht (fun z => kt z p e R s m args below meth c H locs ls hC hR hS hL hu) (fun z => kf z p e R s m args below meth c H locs ls hC hR hS hL hu)
theorem bp_if_le {x : Int32} {off : Int} {tgt : Nat} (hd : decode (bp_c M) pc = .ok (.ifCond .le off, 3)) (ht : (pc : Int) + off = (tgt : Int)) (kt : x ≤ 0 → bp_W G M d tgt lv st h Φ) (kf : ¬ x ≤ 0 → bp_W G M d (pc + 3) lv st h Φ) : bp_W G M d pc lv (.int x :: st) h Φ := by
  intro p e R s m args below meth c H locs ls hC hR hS hL hu
  exact lv_if_le hC.1 hC.2.1 hd ht (fun z => kt z p e R s m args below meth c H locs ls hC hR hS hL hu) (fun z => kf z p e R s m args below meth c H locs ls hC hR hS hL hu)
theorem bp_icmp_eq {x y : Int32} {off : Int} {tgt : Nat} (hd : decode (bp_c M) pc = .ok (.if_icmp .eq off, 3)) (ht : (pc : Int) + off = (tgt : Int)) (kt : x = y → bp_W G M d tgt lv st h Φ) (kf : ¬ x = y → bp_W G M d (pc + 3) lv st h Φ) : bp_W G M d pc lv (.int y :: .int x :: st) h Φ := by
  intro p e R s m args below meth c H locs ls hC hR hS hL hu
  exact lv_icmp_eq hC.1 hC.2.1 hd ht (fun z => kt z p e R s m args below meth c H locs ls hC hR hS hL hu) (fun z => kf z p e R s m args below meth c H locs ls hC hR hS hL hu)
theorem bp_icmp_ne {x y : Int32} {off : Int} {tgt : Nat} (hd : decode (bp_c M) pc = .ok (.if_icmp .ne off, 3)) (ht : (pc : Int) + off = (tgt : Int)) (kt : ¬ x = y → bp_W G M d tgt lv st h Φ) (kf : x = y → bp_W G M d (pc + 3) lv st h Φ) : bp_W G M d pc lv (.int y :: .int x :: st) h Φ := by
  intro p e R s m args below meth c H locs ls hC hR hS hL hu
  exact lv_icmp_ne hC.1 hC.2.1 hd ht (fun z => kt z p e R s m args below meth c H locs ls hC hR hS hL hu) (fun z => kf z p e R s m args below meth c H locs ls hC hR hS hL hu)
theorem bp_icmp_lt {x y : Int32} {off : Int} {tgt : Nat} (hd : decode (bp_c M) pc = .ok (.if_icmp .lt off, 3)) (ht : (pc : Int) + off = (tgt : Int)) (kt : x < y → bp_W G M d tgt lv st h Φ) (kf : ¬ x < y → bp_W G M d (pc + 3) lv st h Φ) : bp_W G M d pc lv (.int y :: .int x :: st) h Φ := by
  intro p e R s m args below meth c H locs ls hC hR hS hL hu
  exact lv_icmp_lt hC.1 hC.2.1 hd ht (fun z => kt z p e R s m args below meth c H locs ls hC hR hS hL hu) (fun z => kf z p e R s m args below meth c H locs ls hC hR hS hL hu)
theorem bp_icmp_ge {x y : Int32} {off : Int} {tgt : Nat} (hd : decode (bp_c M) pc = .ok (.if_icmp .ge off, 3)) (ht : (pc : Int) + off = (tgt : Int)) (kt : y ≤ x → bp_W G M d tgt lv st h Φ) (kf : ¬ y ≤ x → bp_W G M d (pc + 3) lv st h Φ) : bp_W G M d pc lv (.int y :: .int x :: st) h Φ := by
  intro p e R s m args below meth c H locs ls hC hR hS hL hu
  exact lv_icmp_ge hC.1 hC.2.1 hd ht (fun z => kt z p e R s m args below meth c H locs ls hC hR hS hL hu) (fun z => kf z p e R s m args below meth c H locs ls hC hR hS hL hu)
theorem bp_icmp_gt {x y : Int32} {off : Int} {tgt : Nat} (hd : decode (bp_c M) pc = .ok (.if_icmp .gt off, 3)) (ht : (pc : Int) + off = (tgt : Int)) (kt : y < x → bp_W G M d tgt lv st h Φ) (kf : ¬ y < x → bp_W G M d (pc + 3) lv st h Φ) : bp_W G M d pc lv (.int y :: .int x :: st) h Φ := by
  intro p e R s m args below meth c H locs ls hC hR hS hL hu
  exact lv_icmp_gt hC.1 hC.2.1 hd ht (fun z => kt z p e R s m args below meth c H locs ls hC hR hS hL hu) (fun z => kf z p e R s m args below meth c H locs ls hC hR hS hL hu)
theorem bp_icmp_le {x y : Int32} {off : Int} {tgt : Nat} (hd : decode (bp_c M) pc = .ok (.if_icmp .le off, 3)) (ht : (pc : Int) + off = (tgt : Int)) (kt : x ≤ y → bp_W G M d tgt lv st h Φ) (kf : ¬ x ≤ y → bp_W G M d (pc + 3) lv st h Φ) : bp_W G M d pc lv (.int y :: .int x :: st) h Φ := by
  intro p e R s m args below meth c H locs ls hC hR hS hL hu
  exact lv_icmp_le hC.1 hC.2.1 hd ht (fun z => kt z p e R s m args below meth c H locs ls hC hR hS hL hu) (fun z => kf z p e R s m args below meth c H locs ls hC hR hS hL hu)
theorem bp_acmp_eq {rx ry : Option Nat} {off : Int} {tgt : Nat} (hd : decode (bp_c M) pc = .ok (.if_acmp .eq off, 3)) (ht : (pc : Int) + off = (tgt : Int)) (kt : rx = ry → bp_W G M d tgt lv st h Φ) (kf : ¬ rx = ry → bp_W G M d (pc + 3) lv st h Φ) : bp_W G M d pc lv (va_rf ry :: va_rf rx :: st) h Φ := by
  intro p e R s m args below meth c H locs ls hC hR hS hL hu
  exact lv_acmp_eq hC.1 hC.2.1 hd ht (fun z => kt z p e R s m args below meth c H locs ls hC hR hS hL hu) (fun z => kf z p e R s m args below meth c H locs ls hC hR hS hL hu)
theorem bp_acmp_ne {rx ry : Option Nat} {off : Int} {tgt : Nat} (hd : decode (bp_c M) pc = .ok (.if_acmp .ne off, 3)) (ht : (pc : Int) + off = (tgt : Int)) (kt : ¬ rx = ry → bp_W G M d tgt lv st h Φ) (kf : rx = ry → bp_W G M d (pc + 3) lv st h Φ) : bp_W G M d pc lv (va_rf ry :: va_rf rx :: st) h Φ := by
  intro p e R s m args below meth c H locs ls hC hR hS hL hu
  exact lv_acmp_ne hC.1 hC.2.1 hd ht (fun z => kt z p e R s m args below meth c H locs ls hC hR hS hL hu) (fun z => kf z p e R s m args below meth c H locs ls hC hR hS hL hu)
theorem bp_goto {off : Int} {tgt : Nat} (hd : decode (bp_c M) pc = .ok (.goto off, 3)) (ht : (pc : Int) + off = (tgt : Int)) (k : bp_W G M d tgt lv st h Φ) : bp_W G M d pc lv st h Φ := by
  intro p e R s m args below meth c H locs ls hC hR hS hL hu
  exact lv_goto hC.1 hC.2.1 hd ht (k p e R s m args below meth c H locs ls hC hR hS hL hu)
theorem bp_ifnull {x : Nat} {off : Int} (hd : decode (bp_c M) pc = .ok (.ifnull off, 3)) (k : bp_W G M d (pc + 3) lv st h Φ) : bp_W G M d pc lv (.ref x :: st) h Φ := by
  intro p e R s m args below meth c H locs ls hC hR hS hL hu
  exact lv_ifnull hC.1 hC.2.1 hd (k p e R s m args below meth c H locs ls hC hR hS hL hu)
theorem bp_ifnullN {off : Int} {tgt : Nat} (hd : decode (bp_c M) pc = .ok (.ifnull off, 3)) (ht : (pc : Int) + off = (tgt : Int)) (k : bp_W G M d tgt lv st h Φ) : bp_W G M d pc lv (.null :: st) h Φ := by
  intro p e R s m args below meth c H locs ls hC hR hS hL hu
  exact lv_ifnullN hC.1 hC.2.1 hd ht (k p e R s m args below meth c H locs ls hC hR hS hL hu)
theorem bp_ifnonnull {x : Nat} {off : Int} {tgt : Nat} (hd : decode (bp_c M) pc = .ok (.ifnonnull off, 3)) (ht : (pc : Int) + off = (tgt : Int)) (k : bp_W G M d tgt lv st h Φ) : bp_W G M d pc lv (.ref x :: st) h Φ := by
  intro p e R s m args below meth c H locs ls hC hR hS hL hu
  exact lv_ifnonnull hC.1 hC.2.1 hd ht (k p e R s m args below meth c H locs ls hC hR hS hL hu)
theorem bp_ifnonnullN {off : Int} (hd : decode (bp_c M) pc = .ok (.ifnonnull off, 3)) (k : bp_W G M d (pc + 3) lv st h Φ) : bp_W G M d pc lv (.null :: st) h Φ := by
  intro p e R s m args below meth c H locs ls hC hR hS hL hu
  exact lv_ifnonnullN hC.1 hC.2.1 hd (k p e R s m args below meth c H locs ls hC hR hS hL hu)
theorem bp_ifnullq {r : Option Nat} {off : Int} {tgt : Nat} (hd : decode (bp_c M) pc = .ok (.ifnull off, 3)) (ht : (pc : Int) + off = (tgt : Int)) (kt : r = none → bp_W G M d tgt lv st h Φ) (kf : ∀ x, r = some x → bp_W G M d (pc + 3) lv st h Φ) : bp_W G M d pc lv (va_rf r :: st) h Φ := by
  cases r with
  | none => exact bp_ifnullN hd ht (kt rfl)
  | some x => exact bp_ifnull hd (kf x rfl)
theorem bp_ifnonnullq {r : Option Nat} {off : Int} {tgt : Nat} (hd : decode (bp_c M) pc = .ok (.ifnonnull off, 3)) (ht : (pc : Int) + off = (tgt : Int)) (kt : ∀ x, r = some x → bp_W G M d tgt lv st h Φ) (kf : r = none → bp_W G M d (pc + 3) lv st h Φ) : bp_W G M d pc lv (va_rf r :: st) h Φ := by
  cases r with
  | none => exact bp_ifnonnullN hd (kf rfl)
  | some x => exact bp_ifnonnull hd ht (kt x rfl)
theorem bp_tableOut {dflt lo hi : Int} {offs : Array Int} {len : Nat} {x : Int32} {tgt : Nat} (hd : decode (bp_c M) pc = .ok (.tableswitch dflt lo hi offs, len)) (hx : x.toInt < lo ∨ hi < x.toInt) (ht : (pc : Int) + dflt = (tgt : Int)) (k : bp_W G M d tgt lv st h Φ) : bp_W G M d pc lv (.int x :: st) h Φ := by
  intro p e R s m args below meth c H locs ls hC hR hS hL hu
  exact lv_tableOut hC.1 hC.2.1 hd hx ht (k p e R s m args below meth c H locs ls hC hR hS hL hu)
theorem bp_tableIn {dflt lo hi : Int} {offs : Array Int} {len : Nat} {x : Int32} {off : Int} {tgt : Nat} (hd : decode (bp_c M) pc = .ok (.tableswitch dflt lo hi offs, len)) (h1 : ¬ x.toInt < lo) (h2 : ¬ hi < x.toInt) (ho : offs[(x.toInt - lo).toNat]? = some off) (ht : (pc : Int) + off = (tgt : Int)) (k : bp_W G M d tgt lv st h Φ) : bp_W G M d pc lv (.int x :: st) h Φ := by
  intro p e R s m args below meth c H locs ls hC hR hS hL hu
  exact lv_tableIn hC.1 hC.2.1 hd h1 h2 ho ht (k p e R s m args below meth c H locs ls hC hR hS hL hu)
theorem bp_ldc {index : Nat} {v : Int32} (hd : decode (bp_c M) pc = .ok (.ldc index, 2)) (hw : Cond.constant (bp_own_ M) index v ∈ bp_UW) (k : bp_W G M d (pc + 2) lv (.int v :: st) h Φ) : bp_W G M d pc lv st h Φ := by
  intro p e R s m args below meth c H locs ls hC hR hS hL hu
  exact lv_ldc hC.1 hC.2.1 hC.2.2.2.2.1 (hC.2.2.2.2.2.1 _ hw) hd (k p e R s m args below meth c H locs ls hC hR hS hL hu)
end BPR
end
section
/-! ===== the rules that read and write cells ===== -/
/-- entry idx of class own names field k of class ci, of type ty, final or not -/
def bp_FL (own : String) (idx ci k : Nat) (ty : FieldType) (fin : Option Bool) : Prop :=
  ∃ (C : String) (T : u_T) (N : Nat) (ref : String) (ty0 : Nat → FieldType), bp_cl[ci]? = some (C, T, N) ∧ k < N ∧ (∀ w ∈ u_ws C T N, w ∈ bp_UW) ∧ (∀ k, k < N → parseFieldDescriptor (T k).2.2.1 = some (ty0 k)) ∧
    (∀ a, a < N → ∀ b, b < N → a ≠ b → (T a).2.1 ≠ (T b).2.1) ∧ Cond.fieldLink own idx ref (T k).2.1 (T k).2.2.1 ∈ bp_UW ∧ (ref = (T k).1 ∨ Cond.sameField ref (T k).1 (T k).2.1 (T k).2.2.1 ∈ bp_UW) ∧ ty0 k = ty ∧ (fin = some false → (T k).2.2.2 = false) ∧ (fin = some true → (T k).2.2.2 = true ∧ (T k).1 = own)
theorem bp_us_le {b : Nat} {x y z : Nat} (h1 : b ≤ x) (h2 : y ≤ x + z) : y - b ≤ (x - b) + z := by omega
section BPC
variable {G : bp_X} {M : bp_M} {d pc : Nat} {lv : List (Nat × Value)} {st : List Value} {h : bp_H} {Φ : bp_O → bp_H → Prop}
theorem bp_getf {idx ci k a : Nat} {ty : FieldType} {fin : Option Bool} (hd : decode (bp_c M) pc = .ok (.getfield idx, 3)) (fl : bp_FL (bp_own_ M) idx ci k ty fin) (hk : (h.1 a).1 = 1 ∧ (h.1 a).2.1 = ci) {v : Value} (hv : h.2.1 a (32 * ci + k) = v)
    (kk : bp_W G M d (pc + 3) lv (v :: st) h Φ) : bp_W G M d pc lv (.ref a :: st) h Φ := by
  intro p e R s m args below meth c H locs ls hC hR hS hL hu
  obtain ⟨C, T, N, ref, ty0, hc, hkN, hin, -, -, hlink, hsame, -⟩ := fl
  obtain ⟨-, r, h1, h2⟩ := (hR.1 a).1 hk.1
  have hts := hC.2.2.2.2.2.1
  rw [hk.2] at h1 h2
  have hr : r = (C, T, N) := Option.some.inj (h1.symm.trans hc)
  subst hr
  obtain ⟨cell, q1, q2, q3, q4⟩ := h2
  obtain ⟨hSl, hfc, kC, hkC, hkind⟩ := hC.2.2.2.2.2.2.2.1.1.1 ci _ hc
  obtain ⟨cf, kf, fi, f, hi, hsl⟩ := hSl k hkN
  have hi2 : s.fieldFound? ref (T k).2.1 (T k).2.2.1 = some (cf, kf, fi, f) := by
    rcases hsame with e | e
    · rw [e]; exact hi
    · exact u_same (hts _ e) _ hi
  refine W.getf hC.1 hC.2.1 hC.2.2.2.2.1 (hts _ hlink) hi2 (u_facts hfc hkC (u_lays hts hin hkN) hi).1 q1 (by rw [q3]; exact fun h => by cases h) (v := v) ?_ rfl rfl hd (kk p e R s m args below meth c H locs ls hC hR hS hL hu)
  rw [hsl, q4 k hkN, ← hv]
theorem bp_putf {idx ci k a : Nat} {ty : FieldType} {fin : Option Bool} {v : Value} (hd : decode (bp_c M) pc = .ok (.putfield idx, 3)) (fl : bp_FL (bp_own_ M) idx ci k ty fin) (hfin : fin = some false ∨ (fin = some true ∧ (bp_y M).name = "<init>")) (hk : (h.1 a).1 = 1 ∧ (h.1 a).2.1 = ci) (hn : narrow ty v = v) (hf : fits ty v = true)
    (kk : bp_W G M d (pc + 3) lv st (bp_set h a (32 * ci + k) v) Φ) : bp_W G M d pc lv (v :: .ref a :: st) h Φ := by
  intro p e R s m args below meth c H locs ls hC hR hS hL hu
  obtain ⟨C, T, N, ref, ty0, hc, hkN, hin, hty, hnm, hlink, hsame, hty0, hfi, hdecl⟩ := fl
  obtain ⟨hB, r, h1, h2⟩ := (hR.1 a).1 hk.1
  have hts := hC.2.2.2.2.2.1
  have hown := hC.2.2.2.2.1
  rw [hk.2] at h1 h2
  have hr : r = (C, T, N) := Option.some.inj (h1.symm.trans hc)
  subst hr
  have hK := hC.2.2.2.2.2.2.2.1.1
  have hap := va_apart (own := bp_own_ M) hts hin ty0 hty hnm hK hc
  obtain ⟨cell, q1, q2, q3, q4⟩ := h2
  obtain ⟨hSl, hfc, kC, hkC, hkind⟩ := hK.1 ci _ hc
  obtain ⟨cf, kf, fi, f, hi, hsl⟩ := hSl k hkN
  have hi2 : s.fieldFound? ref (T k).2.1 (T k).2.2.1 = some (cf, kf, fi, f) := by
    rcases hsame with e | e
    · rw [e]; exact hi
    · exact u_same (hts _ e) _ hi
  have hst := (u_facts hfc hkC (u_lays hts hin hkN) hi).1
  have hlay := hts _ (hin _ (u_in_lay hkN))
  have hd9 : parseFieldDescriptor (T k).2.2.1 = some ty := by rw [← hty0]; exact hty k hkN
  have goal : ∀ H' : Heap, H'[a]? = some (cell.setSlot f.slot v) → H'.size = H.size → (∀ q, q ≠ a → H'[q]? = H[q]?) → W p (bp_l G) e R s m args below meth c H' (locs ++ [⟨a, f.slot⟩]) (bp_us (bp_B G) H - bp_us (bp_B G) s.heap) (bp_us (bp_B G) H - bp_us (bp_B G) s.heap)
      (vx_MQ below (bp_Qc G Φ) (bp_XC G Φ) args s (bp_max - bp_us (bp_B G) s.heap) (bp_max - bp_us (bp_B G) s.heap) (bp_A G)) (F0 m (pc + 3) ls st) := by
    intro H' e1 e2 e3
    have hz : ∀ c c' : Cell, H[a]? = some c → H'[a]? = some c' → c'.slots.size = c.slots.size := by
      intro c0 c1 g1 g2
      rw [q1] at g1
      rw [e1] at g2
      cases g1; cases g2
      simp [Cell.setSlot]
    have hR' : bp_R G (bp_set h a (32 * ci + k) v) H' := by
      refine bp_R.put hR e2 hz e3 ⟨fun _ => ⟨hB, (C, T, N), by rw [hk.2]; exact hc, ?_⟩, fun z => by rw [hk.1] at z; cases z⟩
      rw [hk.2]
      rw [hsl] at e1
      refine t_OB.to (V := updV (fun j => h.2.1 a (32 * ci + j)) k v) ⟨_, e1, q2, q3, t_set q4 hap hkN v⟩ (fun j _ => ?_)
      unfold updV
      by_cases e : j = k
      · subst e; simp
      · have : ¬ 32 * ci + j = 32 * ci + k := by omega
        simp [e]
    have hu' : bp_us (bp_B G) H' = bp_us (bp_B G) H := bp_us_ext e2 (fun q c0 c1 g1 g2 => by
      by_cases e : q = a
      · subst e; exact hz c0 c1 g1 g2
      · rw [e3 q e, g1] at g2; cases g2; rfl)
    have kk' := kk p e R s m args below meth c H' (locs ++ [⟨a, f.slot⟩]) ls hC hR' (hS.put e2 e3 hB) hL (by rw [hu']; exact hu)
    rw [hu'] at kk'
    exact kk'
  rcases hfin with z | ⟨z, hini⟩
  · unfold u_lay at hlay
    rw [if_neg (by rw [hfi z]; decide)] at hlay
    have h6 := u_store hfc hkC hkind hlay hi hd9 hn hf
    exact W.putK hC.1 hC.2.1 (f := f) ⟨hown, hts _ hlink, ⟨_, _, _, hi2⟩, hst⟩ (by rw [q2]; exact h6) q1 q3 (by rw [hsl]; exact k2_hasslot (q4 k hkN)) rfl rfl hd goal
  · unfold u_lay at hlay
    rw [if_pos (hdecl z).1] at hlay
    have hin2 : meth.name = "<init>" := hC.2.2.2.2.2.2.2.2.2.2.1 hini
    have hcf : m.cls = cf := by
      obtain ⟨_, _, c', _, _, _, -, -, hf', -, -, -, hown2, -⟩ := Cond.laysFinal_spec hlay
      have e1 : c' = cf := by have := hi.symm.trans hf'; simp at this; exact this.1.symm
      rw [(hdecl z).2] at hown2
      rw [← e1]; exact Option.some.inj (hown.symm.trans hown2)
    have h6 := u_fits hfc hkC hkind (Or.inr hlay) hi hd9 hn hf
    exact W.putFinK hC.1 hC.2.1 hown (hts _ hlink) hi2 hst hcf hin2 (by rw [q2]; exact h6) q1 q3 (by rw [hsl]; exact k2_hasslot (q4 k hkN)) rfl rfl hd goal
/-- what an array is, of the machine -/
theorem bp_arr {p : Program} {R : Room} {s : State} {m : MethodId} {args : Array Value} {meth : Method} {c : Code} {H : Heap} {a ti n o : Nat} (hC : bp_C G M d p R s m args meth c) (hR : bp_R G h H) (hk : h.1 a = (2, ti, n, o)) :
    bp_B G ≤ a ∧ H[a]? = some (arrV (bp_ca G ti) n (fun j => h.2.1 a (4096 + j))) ∧ s.isArrayOf (arrV (bp_ca G ti) n (fun j => h.2.1 a (4096 + j))) (bp_ty ti) ∧ va_RA s (bp_ca G ti) (bp_ty ti) ∧ ti < 5 := by
  obtain ⟨h1, h2, h3⟩ := (hR.1 a).2 (by rw [hk])
  rw [hk] at h2 h3
  have hK := hC.2.2.2.2.2.2.2.1.1.2 ti _ (bp_tys_at G ti h2)
  exact ⟨h1, h3, hK.1 n _, hK.2, h2⟩
theorem bp_ix {j n : Nat} (hj : j < n) (hn : n < 2 ^ 31) {cA : ClassId} {f : Nat → Value} : ¬ (nI j < 0 ∨ (arrV cA n f).slots.size ≤ (nI j).toNatClampNeg) := by
  rw [arrV_size]
  exact vp_in_nI hj hn
/-! array rules, laid by program -/
theorem bp_iald {a n o j : Nat} {i : Int32} {v : Value} (hd : decode (bp_c M) pc = .ok (.iaload, 1)) (hk : h.1 a = (2, 0, n, o)) (hi : i = nI j) (hj : j < n) (hn : n < 2 ^ 31) (hv : h.2.1 a (4096 + j) = v) (kk : bp_W G M d (pc + 1) lv (v :: st) h Φ) : bp_W G M d pc lv (.int i :: .ref a :: st) h Φ := by
  intro p e R s m args below meth c H locs ls hC hR hS hL hu
  subst hi
  obtain ⟨-, hcell, harr, -⟩ := bp_arr hC hR hk
  exact W.iald (v := v) hC.1 hC.2.1 hcell harr (fun q => by cases q) (bp_ix hj hn) (by rw [nI_clamp (by omega), arrV_read _ _ hj, hv]) rfl rfl hd (kk p e R s m args below meth c H locs ls hC hR hS hL hu)
theorem bp_zald {a n o j : Nat} {i : Int32} {v : Value} (hd : decode (bp_c M) pc = .ok (.baload, 1)) (hk : h.1 a = (2, 1, n, o)) (hi : i = nI j) (hj : j < n) (hn : n < 2 ^ 31) (hv : h.2.1 a (4096 + j) = v) (kk : bp_W G M d (pc + 1) lv (v :: st) h Φ) : bp_W G M d pc lv (.int i :: .ref a :: st) h Φ := by
  intro p e R s m args below meth c H locs ls hC hR hS hL hu
  subst hi
  obtain ⟨-, hcell, harr, -⟩ := bp_arr hC hR hk
  exact W.zald (v := v) hC.1 hC.2.1 hcell harr (fun q => by cases q) (bp_ix hj hn) (by rw [nI_clamp (by omega), arrV_read _ _ hj, hv]) rfl rfl hd (kk p e R s m args below meth c H locs ls hC hR hS hL hu)
theorem bp_lald {a n o j : Nat} {i : Int32} {v : Value} (hd : decode (bp_c M) pc = .ok (.laload, 1)) (hk : h.1 a = (2, 2, n, o)) (hi : i = nI j) (hj : j < n) (hn : n < 2 ^ 31) (hv : h.2.1 a (4096 + j) = v) (kk : bp_W G M d (pc + 1) lv (v :: st) h Φ) : bp_W G M d pc lv (.int i :: .ref a :: st) h Φ := by
  intro p e R s m args below meth c H locs ls hC hR hS hL hu
  subst hi
  obtain ⟨-, hcell, harr, -⟩ := bp_arr hC hR hk
  exact W.lald (v := v) hC.1 hC.2.1 hcell harr (fun q => by cases q) (bp_ix hj hn) (by rw [nI_clamp (by omega), arrV_read _ _ hj, hv]) rfl rfl hd (kk p e R s m args below meth c H locs ls hC hR hS hL hu)
theorem bp_aald3 {a n o j : Nat} {i : Int32} {v : Value} (hd : decode (bp_c M) pc = .ok (.aaload, 1)) (hk : h.1 a = (2, 3, n, o)) (hi : i = nI j) (hj : j < n) (hn : n < 2 ^ 31) (hv : h.2.1 a (4096 + j) = v) (kk : bp_W G M d (pc + 1) lv (v :: st) h Φ) : bp_W G M d pc lv (.int i :: .ref a :: st) h Φ := by
  intro p e R s m args below meth c H locs ls hC hR hS hL hu
  subst hi
  obtain ⟨-, hcell, harr, -⟩ := bp_arr hC hR hk
  exact W.aald (v := v) (ty := bp_ty 3) hC.1 hC.2.1 hcell harr rfl (fun q => by cases q) (bp_ix hj hn) (by rw [nI_clamp (by omega), arrV_read _ _ hj, hv]) rfl rfl hd (kk p e R s m args below meth c H locs ls hC hR hS hL hu)
theorem bp_aald4 {a n o j : Nat} {i : Int32} {v : Value} (hd : decode (bp_c M) pc = .ok (.aaload, 1)) (hk : h.1 a = (2, 4, n, o)) (hi : i = nI j) (hj : j < n) (hn : n < 2 ^ 31) (hv : h.2.1 a (4096 + j) = v) (kk : bp_W G M d (pc + 1) lv (v :: st) h Φ) : bp_W G M d pc lv (.int i :: .ref a :: st) h Φ := by
  intro p e R s m args below meth c H locs ls hC hR hS hL hu
  subst hi
  obtain ⟨-, hcell, harr, -⟩ := bp_arr hC hR hk
  exact W.aald (v := v) (ty := bp_ty 4) hC.1 hC.2.1 hcell harr rfl (fun q => by cases q) (bp_ix hj hn) (by rw [nI_clamp (by omega), arrV_read _ _ hj, hv]) rfl rfl hd (kk p e R s m args below meth c H locs ls hC hR hS hL hu)
theorem bp_alen {a ti n o : Nat} (hd : decode (bp_c M) pc = .ok (.arraylength, 1)) (hk : h.1 a = (2, ti, n, o)) (kk : bp_W G M d (pc + 1) lv (.int (nI n) :: st) h Φ) : bp_W G M d pc lv (.ref a :: st) h Φ := by
  intro p e R s m args below meth c H locs ls hC hR hS hL hu
  obtain ⟨-, hcell, harr, -⟩ := bp_arr hC hR hk
  exact W.alen hC.1 hC.2.1 hcell harr (by rw [arrV_size]; rfl) rfl rfl hd (kk p e R s m args below meth c H locs ls hC hR hS hL hu)
theorem bp_slen (hd : decode (bp_c M) pc = .ok (.arraylength, 1)) (kk : bp_W G M d (pc + 1) lv (.int (nI (bp_sL G)) :: st) h Φ) : bp_W G M d pc lv (.ref (bp_sb G) :: st) h Φ := by
  intro p e R s m args below meth c H locs ls hC hR hS hL hu
  obtain ⟨h1, h2, h3, h4, h5, h6, h7, h8, h9, h10, h11, h12, h13⟩ := hC.2.2.2.2.2.2.2.1
  exact va_slen hC.1 hC.2.1 h11 (Nat.lt_of_lt_of_le h12 hC.2.2.2.2.2.2.2.2.1.1) (Nat.not_le.mpr h12) hS hd (kk p e R s m args below meth c H locs ls hC hR hS hL hu)
theorem bp_sld {j : Nat} {i : Int32} (hd : decode (bp_c M) pc = .ok (.iaload, 1)) (hi : i = nI j) (hj : j < bp_sL G) (hn : bp_sL G < 2 ^ 31) (kk : bp_W G M d (pc + 1) lv (.int (bp_xs G j) :: st) h Φ) : bp_W G M d pc lv (.int i :: .ref (bp_sb G) :: st) h Φ := by
  intro p e R s m args below meth c H locs ls hC hR hS hL hu
  obtain ⟨h1, h2, h3, h4, h5, h6, h7, h8, h9, h10, h11, h12, h13⟩ := hC.2.2.2.2.2.2.2.1
  subst hi
  refine va_sld hC.1 hC.2.1 h11 (Nat.lt_of_lt_of_le h12 hC.2.2.2.2.2.2.2.2.1.1) (Nat.not_le.mpr h12) hS (vp_in_nI hj hn) hd ?_
  rw [nI_clamp (by omega)]
  exact kk p e R s m args below meth c H locs ls hC hR hS hL hu
/-- the empty array of the lists has length 0 -/
theorem bp_elen (hd : decode (bp_c M) pc = .ok (.arraylength, 1)) (kk : bp_W G M d (pc + 1) lv (.int (nI 0) :: st) h Φ) : bp_W G M d pc lv (.ref (bp_e0 G) :: st) h Φ := by
  intro p e R s m args below meth c H locs ls hC hR hS hL hu
  obtain ⟨h1, h2, h3, -⟩ := hC.2.2.2.2.2.2.2.1
  exact va_tlen hC.1 hC.2.1 h3 hS rfl hd (kk p e R s m args below meth c H locs ls hC hR hS hL hu)
theorem bp_getE {idx : Nat} (hd : decode (bp_c M) pc = .ok (.getstatic idx, 3)) (hw : Cond.fieldLink (bp_own_ M) idx "java/util/ArrayList" "DEFAULTCAPACITY_EMPTY_ELEMENTDATA" "[Ljava/lang/Object;" ∈ bp_UW) (kk : bp_W G M d (pc + 3) lv (.ref (bp_e0 G) :: st) h Φ) : bp_W G M d pc lv st h Φ := by
  intro p e R s m args below meth c H locs ls hC hR hS hL hu
  obtain ⟨h1, h2, -⟩ := hC.2.2.2.2.2.2.2.1
  exact va_gets hC.1 hC.2.1 h2 hS hC.2.2.2.2.1 (hC.2.2.2.2.2.1 _ hw) (fun _ z => z) hd (kk p e R s m args below meth c H locs ls hC hR hS hL hu)
/-- behind a store in an array -/
theorem bp_stored {p : Program} {e : Env} {R : Room} {s : State} {m : MethodId} {args : Array Value} {below : List Frame} {meth : Method} {c : Code} {H H1 : Heap} {locs : List Loc} {ls : Array Slot} {a ti n o j : Nat} {v : Value} {pc' : Nat}
    (hC : bp_C G M d p R s m args meth c) (hR : bp_R G h H) (hS : va_S (bp_A G) s.heap H locs) (hL : lv_has ls (bp_n M) lv) (hu : bp_us (bp_B G) s.heap ≤ bp_us (bp_B G) H) (hk : h.1 a = (2, ti, n, o)) (hj : j < n) (hn : n < 2 ^ 31)
    (e1 : H1[a]? = some ((arrV (bp_ca G ti) n (fun j => h.2.1 a (4096 + j))).setSlot (nI j).toNatClampNeg v)) (e2 : H1.size = H.size) (e3 : ∀ q, q ≠ a → H1[q]? = H[q]?) (kk : bp_W G M d pc' lv st (bp_set h a (4096 + j) v) Φ) :
    W p (bp_l G) e R s m args below meth c H1 (locs ++ [⟨a, (nI j).toNatClampNeg⟩]) (bp_us (bp_B G) H - bp_us (bp_B G) s.heap) (bp_us (bp_B G) H - bp_us (bp_B G) s.heap)
      (vx_MQ below (bp_Qc G Φ) (bp_XC G Φ) args s (bp_max - bp_us (bp_B G) s.heap) (bp_max - bp_us (bp_B G) s.heap) (bp_A G)) (F0 m pc' ls st) := by
  obtain ⟨hB, hcell, harr, -, h5⟩ := bp_arr hC hR hk
  rw [nI_clamp (by omega : j < 2 ^ 31)] at e1
  rw [arrV_store] at e1
  have hz : ∀ c c' : Cell, H[a]? = some c → H1[a]? = some c' → c'.slots.size = c.slots.size := by
    intro c0 c1 g1 g2
    rw [hcell] at g1
    rw [e1] at g2
    cases g1; cases g2
    rw [arrV_size, arrV_size]
  have hR' : bp_R G (bp_set h a (4096 + j) v) H1 := by
    refine bp_R.put hR e2 hz e3 ⟨fun z => (by rw [hk] at z; cases z), fun _ => ⟨hB, by rw [hk]; exact h5, ?_⟩⟩
    rw [hk, e1]
    congr 2
    funext q
    unfold updV
    by_cases e : q = j
    · subst e; simp
    · have : ¬ 4096 + q = 4096 + j := by omega
      simp [e]
  have hu' : bp_us (bp_B G) H1 = bp_us (bp_B G) H := bp_us_ext e2 (fun q c0 c1 g1 g2 => by
    by_cases e : q = a
    · subst e; exact hz c0 c1 g1 g2
    · rw [e3 q e, g1] at g2; cases g2; rfl)
  have kk' := kk p e R s m args below meth c H1 (locs ++ [⟨a, (nI j).toNatClampNeg⟩]) ls hC hR' (hS.put e2 e3 hB) hL (by rw [hu']; exact hu)
  rw [hu'] at kk'
  exact kk'

theorem bp_iast {a n o j : Nat} {i : Int32} {x : Int32} (hd : decode (bp_c M) pc = .ok (.iastore, 1)) (hk : h.1 a = (2, 0, n, o)) (hi : i = nI j) (hj : j < n) (hn : n < 2 ^ 31) (kk : bp_W G M d (pc + 1) lv st (bp_set h a (4096 + j) (.int x)) Φ) : bp_W G M d pc lv (.int x :: .int i :: .ref a :: st) h Φ := by
  intro p e R s m args below meth c H locs ls hC hR hS hL hu
  subst hi
  obtain ⟨hB, hcell, harr, -⟩ := bp_arr hC hR hk
  exact W.iast hC.1 hC.2.1 hcell harr (fun q => by cases q) (bp_ix hj hn) rfl rfl hd fun H1 e1 e2 e3 => bp_stored hC hR hS hL hu hk hj hn e1 e2 e3 kk
theorem bp_zast {a n o j : Nat} {i : Int32} {x : Int32} (hd : decode (bp_c M) pc = .ok (.bastore, 1)) (hk : h.1 a = (2, 1, n, o)) (hi : i = nI j) (hj : j < n) (hn : n < 2 ^ 31) (kk : bp_W G M d (pc + 1) lv st (bp_set h a (4096 + j) (narrow .boolean (.int x))) Φ) : bp_W G M d pc lv (.int x :: .int i :: .ref a :: st) h Φ := by
  intro p e R s m args below meth c H locs ls hC hR hS hL hu
  subst hi
  obtain ⟨hB, hcell, harr, -⟩ := bp_arr hC hR hk
  exact W.zast hC.1 hC.2.1 hcell harr (fun q => by cases q) (bp_ix hj hn) rfl rfl hd fun H1 e1 e2 e3 => bp_stored hC hR hS hL hu hk hj hn e1 e2 e3 kk
theorem bp_last {a n o j : Nat} {i : Int32} {x : Int64} (hd : decode (bp_c M) pc = .ok (.lastore, 1)) (hk : h.1 a = (2, 2, n, o)) (hi : i = nI j) (hj : j < n) (hn : n < 2 ^ 31) (kk : bp_W G M d (pc + 1) lv st (bp_set h a (4096 + j) (.long x)) Φ) : bp_W G M d pc lv (.long x :: .int i :: .ref a :: st) h Φ := by
  intro p e R s m args below meth c H locs ls hC hR hS hL hu
  subst hi
  obtain ⟨hB, hcell, harr, -⟩ := bp_arr hC hR hk
  exact W.last hC.1 hC.2.1 hcell harr (fun q => by cases q) (bp_ix hj hn) rfl rfl hd fun H1 e1 e2 e3 => bp_stored hC hR hS hL hu hk hj hn e1 e2 e3 kk
theorem bp_aastN {a n o j : Nat} {i : Int32} (hd : decode (bp_c M) pc = .ok (.aastore, 1)) (hk : h.1 a = (2, 3, n, o)) (hi : i = nI j) (hj : j < n) (hn : n < 2 ^ 31) (kk : bp_W G M d (pc + 1) lv st (bp_set h a (4096 + j) .null) Φ) : bp_W G M d pc lv (.null :: .int i :: .ref a :: st) h Φ := by
  intro p e R s m args below meth c H locs ls hC hR hS hL hu
  subst hi
  obtain ⟨hB, hcell, harr, -⟩ := bp_arr hC hR hk
  exact va_WaastN (C := "java/lang/Object") hC.1 hC.2.1 hcell harr (fun q => by cases q) (bp_ix hj hn) rfl rfl hd fun H1 e1 e2 e3 => bp_stored hC hR hS hL hu hk hj hn e1 e2 e3 kk
/-- an object of class ci may stand in an array of objects -/
def bp_any (ci : Nat) : Prop := ∃ (C : String) (T : u_T) (N : Nat), bp_cl[ci]? = some (C, T, N) ∧ Cond.castable C "java/lang/Object" ∈ bp_UW
theorem bp_anyOf {p : Program} {R : Room} {s : State} {m : MethodId} {args : Array Value} {meth : Method} {c : Code} {H : Heap} {v ci : Nat} (hC : bp_C G M d p R s m args meth c) (hR : bp_R G h H) (ha : bp_any ci) (hv : (h.1 v).1 = 1 ∧ (h.1 v).2.1 = ci) : va_Any "java/lang/Object" s H v := by
  obtain ⟨C, T, N, hc, hw⟩ := ha
  obtain ⟨-, r, h1, cell, q1, q2, q3, q4⟩ := (hR.1 v).1 hv.1
  rw [hv.2] at h1 q2
  obtain ⟨-, hfc, kC, hkC, hkind⟩ := hC.2.2.2.2.2.2.2.1.1.1 ci _ hc
  refine ⟨cell, q1, by rw [q3]; rfl, ⟨kC, by rw [q2]; exact hkC⟩, fun comp hcomp => ?_⟩
  obtain ⟨c0, t0, f1, f2, f3⟩ := Cond.castable_spec (hC.2.2.2.2.2.1 _ hw)
  cases hcomp.symm.trans f2
  cases hfc.symm.trans f1
  rw [q2]
  exact f3
theorem bp_aast {a n o j v ci : Nat} {i : Int32} (hd : decode (bp_c M) pc = .ok (.aastore, 1)) (hk : h.1 a = (2, 3, n, o)) (hi : i = nI j) (hj : j < n) (hn : n < 2 ^ 31) (ha : bp_any ci) (hv : (h.1 v).1 = 1 ∧ (h.1 v).2.1 = ci) (kk : bp_W G M d (pc + 1) lv st (bp_set h a (4096 + j) (.ref v)) Φ) : bp_W G M d pc lv (.ref v :: .int i :: .ref a :: st) h Φ := by
  intro p e R s m args below meth c H locs ls hC hR hS hL hu
  subst hi
  obtain ⟨hB, hcell, harr, hRA, -⟩ := bp_arr hC hR hk
  obtain ⟨cellV, g1, g3, ⟨kC, hkC⟩, hasg⟩ := bp_anyOf hC hR ha hv
  obtain ⟨kA, comp, k1, k2, k3, -⟩ := hRA
  obtain ⟨kE, hkE, -⟩ := Vm.findClass_spec k3
  exact W.aast hC.1 hC.2.1 hcell (fun q h => by cases h) (fun h => by cases h) k1 k2 rfl hkE ⟨nI_pos (by omega), by rw [arrV_size, nI_clamp (by omega)]; exact hj⟩ g1 (fun q h => by rw [h] at g3; cases g3) hkC (hasg _ k3) rfl rfl hd fun H1 e1 e2 e3 => bp_stored hC hR hS hL hu hk hj hn e1 e2 e3 kk
/-- behind something new -/
theorem bp_pushed {p : Program} {e : Env} {R : Room} {s : State} {m : MethodId} {args : Array Value} {below : List Frame} {meth : Method} {c : Code} {H H1 : Heap} {locs : List Loc} {ls : Array Slot} {k : bp_K} {f : Nat → Value} {cell : Cell} {N cells slots : Nat} {pc' : Nat} {st' : Nat → List Value}
    (hC : bp_C G M d p R s m args meth c) (hR : bp_R G h H) (hS : va_S (bp_A G) s.heap H locs) (hL : lv_has ls (bp_n M) lv) (hu : bp_us (bp_B G) s.heap ≤ bp_us (bp_B G) H) (hm : h.2.2 + (1 + N) ≤ bp_max)
    (e1 : H1[H.size]? = some cell) (hN : cell.slots.size = N) (e2 : H1.size = H.size + 1) (e3 : ∀ q, q < H.size → H1[q]? = H[q]?) (hat : bp_at G k f H.size H1) (hc1 : cells = bp_us (bp_B G) H - bp_us (bp_B G) s.heap + 1) (hc2 : slots = bp_us (bp_B G) H - bp_us (bp_B G) s.heap + N)
    (kk : ∀ q : Nat, (h.1 q).1 ≠ 1 → (h.1 q).1 ≠ 2 → bp_B G ≤ q → bp_W G M d pc' lv (st' q) (bp_new h q k f (1 + N)) Φ) :
    W p (bp_l G) e R s m args below meth c H1 locs cells slots
      (vx_MQ below (bp_Qc G Φ) (bp_XC G Φ) args s (bp_max - bp_us (bp_B G) s.heap) (bp_max - bp_us (bp_B G) s.heap) (bp_A G)) (F0 m pc' ls (st' H.size)) := by
  obtain ⟨hR', n1, n2⟩ := bp_R.push (f := f) hR e2 e1 e3 hat (by rw [hN]; exact Nat.le_refl _) hm
  have hu' := bp_us_push hR.2.2.2 e2 e1 e3
  rw [hN] at hu'
  have kk' := kk H.size n1 n2 hR.2.2.2 p e R s m args below meth c H1 locs ls hC hR' ⟨Nat.le_trans hS.1 (by omega), fun x g1 g2 => (e3 x (Nat.lt_of_lt_of_le g1 hS.1)).trans (hS.2.1 x g1 g2), hS.2.2⟩ hL (by omega)
  exact W.widen (by omega) (by omega) kk'
theorem bp_room {p : Program} {R : Room} {s : State} {m : MethodId} {args : Array Value} {meth : Method} {c : Code} {H : Heap} {n : Nat} (hC : bp_C G M d p R s m args meth c) (hR : bp_R G h H) (hu : bp_us (bp_B G) s.heap ≤ bp_us (bp_B G) H) (hm : h.2.2 + n ≤ bp_max) :
    bp_us (bp_B G) H - bp_us (bp_B G) s.heap + n ≤ R.cells ∧ bp_us (bp_B G) H - bp_us (bp_B G) s.heap + n ≤ R.slots := by
  obtain ⟨-, -, r1, r2⟩ := hC.2.2.2.2.2.2.2.2.2.2.2
  have := hR.2.1
  omega
/-- what a new object holds -/
def bp_born (ci : Nat) (ty : Nat → FieldType) : Nat → Value := fun j => defaultValue (ty (j - 32 * ci))
/-- entry idx of class own names class ci, that may be made: N fields, of types ty -/
def bp_NW (own : String) (idx ci N : Nat) (ty : Nat → FieldType) : Prop :=
  ∃ (C : String) (T : u_T), bp_cl[ci]? = some (C, T, N) ∧ (∀ w ∈ u_ws C T N, w ∈ bp_UW) ∧ (∀ k, k < N → parseFieldDescriptor (T k).2.2.1 = some (ty k)) ∧ Cond.classLink own idx C ∈ bp_UW ∧ Cond.instantiable C N ∈ bp_UW ∧ Cond.initialized C ∈ bp_UW
theorem bp_newo {idx ci N : Nat} {ty : Nat → FieldType} (hd : decode (bp_c M) pc = .ok (.new idx, 3)) (hw : bp_NW (bp_own_ M) idx ci N ty) (hm : h.2.2 + (1 + N) ≤ bp_max)
    (kk : ∀ q : Nat, (h.1 q).1 ≠ 1 → (h.1 q).1 ≠ 2 → bp_B G ≤ q → bp_W G M d (pc + 3) lv (.ref q :: st) (bp_new h q (1, ci, 0, 0) (bp_born ci ty) (1 + N)) Φ) : bp_W G M d pc lv st h Φ := by
  intro p e R s m args below meth c H locs ls hC hR hS hL hu
  obtain ⟨C, T, hc, hin, hty, w1, w2, w3⟩ := hw
  have hts := hC.2.2.2.2.2.1
  have hKn := hC.2.2.2.2.2.2.2.1.1.1 ci _ hc
  have hr := bp_room hC hR hu hm
  refine W.newc hC.1 hC.2.1 hC.2.2.2.2.1 (hts _ w1) (hts _ w2) (hts _ w3) rfl hd (by omega) (by omega) fun cC kC h1 h2 h3 h4 => ?_
  generalize hH1 : H.push ({ cls := cC, slots := kC.instanceTypes.map defaultValue, vm := .none } : Cell) = H1
  have z1 : H1.size = H.size + 1 := by rw [← hH1, Array.size_push]
  have e1 : H1[H.size]? = some (blank cC kC) := by rw [← hH1]; simp [blank]
  have o1 : ∀ q : Nat, q < H.size → H1[q]? = H[q]? := fun q hq => by rw [← hH1, Array.getElem?_push, if_neg (Nat.ne_of_lt hq)]
  cases h1.symm.trans hKn.2.1
  refine bp_pushed (st' := fun q => .ref q :: st) (cell := blank _ kC) (k := (1, ci, 0, 0)) (f := bp_born ci ty) hC hR hS hL hu hm e1 (by simp [blank, h4]) z1 o1 ⟨fun _ => ⟨hR.2.2.2, _, hc, ?_⟩, fun z => (by cases z)⟩ rfl rfl kk
  refine (u_born ty hts hin hKn h2 e1 hty).to (fun j hj => ?_)
  simp [bp_born]
theorem bp_newa {n : Int32} {N ti : Nat} {atype : ArrayType} (hd : decode (bp_c M) pc = .ok (.newarray atype, 2)) (hti : ti < 3) (hty : newarray.typeOf atype = bp_ty ti) (hw : Cond.arrayClass (bp_ty ti) ∈ bp_UW) (hn : n = nI N) (hN : N ≤ 1000) (hm : h.2.2 + (1 + N) ≤ bp_max)
    (kk : ∀ q : Nat, (h.1 q).1 ≠ 1 → (h.1 q).1 ≠ 2 → bp_B G ≤ q → bp_W G M d (pc + 2) lv (.ref q :: st) (bp_new h q (2, ti, N, 0) (fun _ => defaultValue (bp_ty ti)) (1 + N)) Φ) : bp_W G M d pc lv (.int n :: st) h Φ := by
  intro p e R s m args below meth c H locs ls hC hR hS hL hu
  subst hn
  have hts := hC.2.2.2.2.2.1
  have hr := bp_room hC hR hu hm
  have hcb : N * componentBytes (newarray.typeOf atype) ≤ 536870912 := by
    have : componentBytes (newarray.typeOf atype) ≤ 8 := by cases atype <;> decide
    calc N * componentBytes (newarray.typeOf atype) ≤ 1000 * 8 := Nat.mul_le_mul hN this
      _ ≤ 536870912 := by decide
  refine va_newaK hC.1 hC.2.1 (atype := atype) (by rw [hty]; exact hts _ hw) rfl hd rfl (nI_pos (by omega)) (nI_clamp (by omega)) hcb (by omega) (by omega) rfl fun H1 cA e1 z1 o1 hAr hNm => ?_
  have hca : cA = bp_ca G ti := by
    have hK := (hC.2.2.2.2.2.2.2.1.1.2 ti _ (bp_tys_at G ti (by omega))).2
    rw [hty] at hNm
    have hR2 : s.vm.findClass ("[" ++ (bp_ty ti).toString) = some (bp_ca G ti) := by
      match ti, hti with
      | 0, _ => exact hK
      | 1, _ => exact hK
      | 2, _ => exact hK
    exact Option.some.inj (hNm.symm.trans hR2)
  subst hca
  rw [hty] at e1
  exact bp_pushed (st' := fun q => .ref q :: st) (k := (2, ti, N, 0)) (f := fun _ => defaultValue (bp_ty ti)) hC hR hS hL hu hm e1 (by rw [arrV_size]) z1 o1 ⟨fun z => (by cases z), fun _ => ⟨hR.2.2.2, by show ti < 5; omega, e1⟩⟩ rfl rfl kk
theorem bp_newO {idx N : Nat} {n : Int32} (hd : decode (bp_c M) pc = .ok (.anewarray idx, 3)) (hw : Cond.classLink (bp_own_ M) idx "java/lang/Object" ∈ bp_UW) (hn : n = nI N) (hN : N ≤ 1000) (hm : h.2.2 + (1 + N) ≤ bp_max)
    (kk : ∀ q : Nat, (h.1 q).1 ≠ 1 → (h.1 q).1 ≠ 2 → bp_B G ≤ q → bp_W G M d (pc + 3) lv (.ref q :: st) (bp_new h q (2, 3, N, 0) (fun _ => .null) (1 + N)) Φ) : bp_W G M d pc lv (.int n :: st) h Φ := by
  intro p e R s m args below meth c H locs ls hC hR hS hL hu
  subst hn
  have hts := hC.2.2.2.2.2.1
  have hr := bp_room hC hR hu hm
  have hcl : (nI N).toNatClampNeg = N := nI_clamp (by omega)
  refine W.anew hC.1 hC.2.1 hC.2.2.2.2.1 (hts _ hw) (va_AO.use hC.2.2.2.2.2.2.2.1.2.2.2.2.2.2.2.2.1) rfl hd rfl (nI_pos (by omega)) (by rw [hcl]; omega) (by omega) (by rw [hcl]; omega) fun cA kA comp f1 f2 f3 f4 => ?_
  rw [hcl]
  generalize hH1 : H.push ({ cls := cA, slots := Array.replicate N .null, vm := .none } : Cell) = H1
  have z1 : H1.size = H.size + 1 := by rw [← hH1, Array.size_push]
  have hca : cA = bp_ca G 3 := by
    have hK := (hC.2.2.2.2.2.2.2.1.1.2 3 _ (bp_tys_at G 3 (by omega))).2
    obtain ⟨-, -, -, -, -, r4⟩ := hK
    exact Option.some.inj (f1.symm.trans r4)
  subst hca
  have e1 : H1[H.size]? = some (arrV (bp_ca G 3) N (fun _ => .null)) := by rw [← hH1, ← arrV_new]; simp
  have o1 : ∀ q : Nat, q < H.size → H1[q]? = H[q]? := fun q hq => by rw [← hH1, Array.getElem?_push, if_neg (Nat.ne_of_lt hq)]
  exact bp_pushed (st' := fun q => .ref q :: st) (k := (2, 3, N, 0)) (f := fun _ => .null) hC hR hS hL hu hm e1 (by rw [arrV_size]) z1 o1 ⟨fun z => (by cases z), fun _ => ⟨hR.2.2.2, by show 3 < 5; omega, e1⟩⟩ rfl rfl kk
/-- a receiver of class ci -/
theorem bp_recv {p : Program} {R : Room} {s : State} {m : MethodId} {args : Array Value} {meth : Method} {c : Code} {H : Heap} {a ci N : Nat} {C : String} {T : u_T} (hC : bp_C G M d p R s m args meth c) (hR : bp_R G h H) (hc : bp_cl[ci]? = some (C, T, N)) (hk : (h.1 a).1 = 1 ∧ (h.1 a).2.1 = ci) :
    ∃ cell : Cell, H[a]? = some cell ∧ cell.vm.isStatics = false ∧ s.vm.findClass C = some cell.cls := by
  obtain ⟨-, r, h1, cell, q1, q2, q3, q4⟩ := (hR.1 a).1 hk.1
  rw [hk.2] at h1 q2
  obtain ⟨-, hfc, -⟩ := hC.2.2.2.2.2.2.2.1.1.1 ci _ hc
  exact ⟨cell, q1, by rw [q3]; rfl, by rw [q2]; exact hfc⟩
theorem bp_cast {idx a ci N : Nat} {C : String} {T : u_T} (hd : decode (bp_c M) pc = .ok (.checkcast idx, 3)) (hc : bp_cl[ci]? = some (C, T, N)) (hw : Cond.classLink (bp_own_ M) idx C ∈ bp_UW) (hk : (h.1 a).1 = 1 ∧ (h.1 a).2.1 = ci) (kk : bp_W G M d (pc + 3) lv (.ref a :: st) h Φ) : bp_W G M d pc lv (.ref a :: st) h Φ := by
  intro p e R s m args below meth c H locs ls hC hR hS hL hu
  exact va_castS hC.1 hC.2.1 hC.2.2.2.2.1 (hC.2.2.2.2.2.1 _ hw) ((hC.2.2.2.2.2.2.2.1.1.1 ci _ hc).2) (bp_recv hC hR hc hk) hd (kk p e R s m args below meth c H locs ls hC hR hS hL hu)
theorem bp_castO {idx a n o : Nat} (hd : decode (bp_c M) pc = .ok (.checkcast idx, 3)) (hw : Cond.classLink (bp_own_ M) idx "[Ljava/lang/Object;" ∈ bp_UW) (hk : h.1 a = (2, 3, n, o)) (kk : bp_W G M d (pc + 3) lv (.ref a :: st) h Φ) : bp_W G M d pc lv (.ref a :: st) h Φ := by
  intro p e R s m args below meth c H locs ls hC hR hS hL hu
  obtain ⟨hB, hcell, harr, hRA, -⟩ := bp_arr hC hR hk
  intro T hT X
  obtain ⟨vm', X', st9⟩ := X.checkcastYes hC.1 hC.2.2.2.2.1 (hC.2.2.2.2.2.1 _ hw) (by rw [hT]; exact hcell) rfl (va_nmO hRA (by decide +kernel)) (va_asg _ _) (g := F0 m pc ls (.ref a :: st)) rfl rfl (by rw [hC.2.1]; exact hd)
  obtain ⟨t, a1, b1⟩ := kk p e R s m args below meth c H locs ls hC hR hS hL hu (T.setVm vm') hT X'
  exact ⟨t, st9 t a1, b1⟩

end BPC
end
section
/-! ===== a constructor that may throw: pasted from the kit ===== -/
section VXIA
variable {p : Program} {l : Launch} {e : Env} {R : Room} {s : State} {m : MethodId} {args : Array Value} {below : List Frame} {meth : Method} {c : Code} {T : State} {locs : List Loc} {cells slots : Nat}
theorem vx_callI (X : Stand p l e R s m args below meth c T locs cells slots) (hexec : p.tables.exec = Jvm.exec) {own : String} {index : Nat} {y : MethodName} {bytes : ByteArray} {maxL : Nat}
    (hown : s.vm.findClass own = some m.cls) (hy1 : y.name = "<init>") (hlink : (Cond.methodLink own index y).before args s = true) (hinst : (Cond.instanceMethod y).before args s = true)
    (hcode : (Cond.code y bytes maxL none).before args s = true) (hy : y.cls ≠ "java/lang/invoke/MethodHandle" ∧ y.cls ≠ "java/lang/invoke/VarHandle")
    {W9 : Nat} {Pre : Pt → Array Value → Prop} {Post : Pt → Array Value → Option Value → Pt → Prop} {PostX : Pt → Array Value → Addr → Pt → Prop} (hK : vx_Back l R p e below s args y 3 W9 Pre Post PostX)
    {g : JFrame} (hg : g.method = m) (hsize : g.locals.size = c.maxLocals) {a : Addr} {argsL rest : List Value} (hlen : ∀ sig, parseMethodDescriptor y.desc = some sig → argsL.length = sig.parameters.length)
    (hstack : g.stack = argsL.reverse ++ .ref a :: rest) (hW : 2 * g.monitorRoom + (rest.map fun v => v.category).sum ≤ W9) (hdg : decode c.code g.pc = .ok (.invokespecial index, 3))
    (hpre : ∀ vm₁, s.WarmedH vm₁ → Pre ⟨T.setVm vm₁, locs, cells, slots⟩ (Value.ref a :: argsL).toArray) :
    (∃ (v : Option Value) (vm₁ : Vm) (B : Pt), s.WarmedH vm₁ ∧ Stand p l e R s m args below meth c B.U B.locs B.cells B.slots ∧ Post ⟨T.setVm vm₁, locs, cells, slots⟩ (Value.ref a :: argsL).toArray v B ∧
      ∀ target, Steps p.tables e below (B.U.setTop { g with pc := g.pc + 3, stack := v.toList ++ rest }) target → Steps p.tables e below (T.setTop g) target) ∨
    (∃ (q : Addr) (vm₁ : Vm) (B : Pt), s.WarmedH vm₁ ∧ Stand p l e R s m args below meth c B.U B.locs B.cells B.slots ∧ PostX ⟨T.setVm vm₁, locs, cells, slots⟩ (Value.ref a :: argsL).toArray q B ∧
      Steps p.tables e below (T.setTop g) ((B.U.setTop { g with stack := rest }).pushFrame (.throwing q))) := by
  subst hg
  have hpl : e.platform.magicAccessors = ({} : Platform).magicAccessors := by rw [X.admits.platform]
  obtain ⟨mk, methM, cM, kP, vm₁, hnamed, hmethM, hcodeM, -, hlocalsM, -, hkP, -, hW₁, hstep₁⟩ := Steps.initColdArgs (e := e) X.here hexec X.warmed hpl hown hy1 hy hlink hinst hcode (f := g) rfl hlen hstack hdg
  have X₁ := X.noted hW₁
  rcases hK g.method meth c ⟨T.setVm vm₁, locs, cells, slots⟩ { g with stack := rest } (.invokespecial index) mk (Value.ref a :: argsL).toArray X₁ rfl hsize hdg hW (X₁.named hnamed) (hpre vm₁ X₁.warmed) with ⟨v, B, X', hpost, hsteps⟩ | ⟨q, B, X', hpost, hsteps⟩
  · exact Or.inl ⟨v, vm₁, B, X₁.warmed, X', hpost, fun target h => hstep₁ _ fun acts => by rw [doInvoke_state]; exact hsteps.trans h⟩
  · exact Or.inr ⟨q, vm₁, B, X₁.warmed, X', hpost, hstep₁ _ fun acts => by rw [doInvoke_state]; exact hsteps⟩
end VXIA
section VXIB
variable {p : Program} {l : Launch} {e : Env} {R : Room} {s : State} {m : MethodId} {args : Array Value} {below : List Frame} {meth : Method} {c : Code} {H : Heap} {locs : List Loc} {cells slots : Nat}
variable {y : MethodName} {bytes cc : ByteArray} {maxL nL mc ms n index : Nat} {ret : Option FieldType} {ws : List Cond} {rm : Room} {Pc : Array Value → State → Prop} {Qc : Array Value → State → Outcome → State → Prop} {XC : String → State → State → Prop} {free : Addr → Prop} {Ts : List Cond} {own C : String} {b : Addr} {As rest : List Value} {g : JFrame}
theorem vx_runI (S : CallFix p m c cc nL s args Ts own) (hM : vx_Met l y ws rm Pc Qc XC mc ms free) (cw : CallB R s args own index y bytes maxL none ws rm mc ms n ∧ y.name = "<init>" ∧ (Cond.instanceMethod y).before args s = true) (hp : PreS s H Pc (.ref b :: As))
    (hg : g.method = m) (hn : As.length = n) (hsize : g.locals.size = nL) (hstack : g.stack = As.reverse ++ .ref b :: rest) (hW : 2 * g.monitorRoom + (rest.map fun v => v.category).sum ≤ 8) (hdg : decode cc g.pc = .ok (.invokespecial index, 3)) (hf : cells + mc ≤ R.cells ∧ slots + ms ≤ R.slots) :
    vx_Run p l e R s m args below meth c H locs cells slots mc ms g rest (Qc (Value.ref b :: As).toArray) XC free := by
  have hK : vx_Back l R p e below s args y 3 8 (PreOf R mc ms Pc) (PostOf Qc mc ms free) (vx_Post XC mc ms free) := vx_callBack cw.1 hM hp.1
  obtain ⟨⟨-, -, -, -, -, -, hcode, -, hy, hlen, hl⟩, hy1, hin⟩ := cw
  obtain ⟨hx, hb, hml, ho, -⟩ := S
  have hPc := hp.2
  intro T hT X
  rcases vx_callI X hx (bytes := bytes) (maxL := maxL) ho hy1 hl hin hcode hy hK hg (hsize.trans hml.symm) (a := b) (argsL := As) (rest := rest) (fun sig h => hn.trans (hlen sig h)) hstack hW (by rw [hb]; exact hdg)
    (fun vm₁ hW₁ => ⟨hf.1, hf.2, hPc (T.setVm vm₁) hT hW₁⟩) with ⟨v, vm₁, ⟨U', l2, c2, s2⟩, hW₁, X', ⟨g', mk, t, L, e1, e2, hq, h1, hL, h2, h3⟩, st⟩ | ⟨q, vm₁, ⟨U', l2, c2, s2⟩, hW₁, X', ⟨g', mk, t, L, E, ce, e1, e2, hq, hce, hcv, hcl, h1, hL, h2, h3⟩, st⟩
  · dsimp only [Pt.U, Pt.locs, Pt.cells, Pt.slots] at X' e1 e2 h1 h2 h3 st
    subst h1; subst h2; subst h3
    exact Or.inl ⟨v, (T.setVm vm₁).calling g' mk (Value.ref b :: As).toArray, t, U', L, hT, X', hL, e1, e2, hq, st⟩
  · dsimp only [Pt.U, Pt.locs, Pt.cells, Pt.slots] at X' e1 e2 h1 h2 h3 st hcl
    subst h1; subst h2; subst h3
    exact Or.inr ⟨q, (T.setVm vm₁).calling g' mk (Value.ref b :: As).toArray, t, U', L, E, ce, hT, X', hL, e1, e2, hq, hce, hcv, vx_cls hW₁ hcl, st⟩
end VXIB
/-! ===== a throw that tells how much it takes: after the kit's vx_throwS ===== -/
section BPT
variable {p : Program} {l : Launch} {e : Env} {R : Room} {s : State} {m : MethodId} {args : Array Value} {below : List Frame} {meth : Method} {c : Code} {H : Heap} {locs : List Loc} {cells slots : Nat} {Q : State → Prop}
variable {mc ms : Nat} {free : Addr → Prop} {A0 A1 : Nat → Prop} {H0 : Heap} {a : Array Value} {ls : Array Slot} {st0 rest : List Value}
variable {Qc : Array Value → State → Outcome → State → Prop} {XC : String → State → State → Prop}
theorem bp_throwS0 {b0 : Nat} (hb0 : b0 ≤ H.size) {cc : ByteArray} {pc : Nat} (hexec : p.tables.exec = Jvm.exec) (hb : c.code = cc) (hl : l.stackTraces = false) {own cls text : String} {names : List String} {ik is ic mc ms sa : Nat} {A : Nat → Prop}
    (hown : s.vm.findClass own = some m.cls) (hcls : Bundle.fit cls = true) (hnames : ∀ n ∈ names, Bundle.fit n = true)
    (hk : (Cond.classLink own ik cls).before args s = true) (hini : (Cond.initialized cls).before args s = true) (hstr : vk_R own is text sa s) (hat : ∀ w ∈ vx_atS own ic cls names, w.before args s = true)
    (hgood : ∀ w ∈ Cond.classLink own ik cls :: Cond.initialized cls :: vx_atS own ic cls names, vx_ot w = true)
    (hU : vx_Zq Bundle.tN "UNASSIGNED_STACK" Bundle.steD A s s.heap) (hN : vx_Zq Bundle.tN "SUPPRESSED_SENTINEL" Bundle.listD A s s.heap) (hS : va_S A s.heap H locs) (hsize : ls.size = c.maxLocals)
    (d0 : decode cc pc = .ok (.new ik, 3)) (d3 : decode cc (pc + 3) = .ok (.dup, 1)) (d4 : decode cc (pc + 4) = .ok (.ldc is, 2)) (d6 : decode cc (pc + 6) = .ok (.invokespecial ic, 3)) (d9 : decode cc (pc + 9) = .ok (.athrow, 1))
    (hout : ∀ x ∈ c.exceptionTable.toList, covers x (pc + 9) = false)
    (hRframes : names.length + 3 < R.frames) (hRlocals : (rest.map fun v => v.category).sum + (13 * (names.length + 1) + 43) ≤ R.locals) (hRcells : cells + 1 ≤ R.cells) (hRslots : slots + 6 ≤ R.slots) (hlocks : meth.locks = false)
    (hx : ∀ t : State, s.vm.Alike t.vm → H.size ≤ t.heap.size → (∀ q : Nat, q < H.size → t.heap[q]? = H[q]?) → bp_us b0 t.heap ≤ bp_us b0 H + 7 → XC cls s t)
    (hf : ∀ z ∈ locs, free z.base) (hc : cells + 1 ≤ mc) (hs : slots + 6 ≤ ms) :
    W p l e R s m args below meth c H locs cells slots (vx_MQ below Qc XC args s mc ms free) (F0 m pc ls rest) := by
  intro T hT X
  have htr : e.platform.stackTraces = false := (show e.platform.stackTraces = l.stackTraces by rw [X.admits.platform]).trans hl
  have Y := vx_rebase X (R' := { frames := R.frames, locals := R.locals, cells := 1, slots := 6 }) (Nat.le_refl _) (Nat.le_refl _) hRcells hRslots
  obtain ⟨s', hA⟩ : ∃ z, z = (T.setVm s.vm).setFrames (.invoking m args :: below) := ⟨_, rfl⟩
  rw [← hA] at Y
  have hvm : s'.vm = s.vm := by rw [hA]; rfl
  have hhp : s'.heap = H := by rw [hA]; exact hT
  have hW0 : s.WarmedH s'.vm := by rw [hvm]; exact State.WarmedH.refl s
  have hat' : ∀ w ∈ vx_atS own ic cls names, w.before args s' = true := fun w hw => vx_ot_at hW0 hvm.symm (hgood w (List.mem_cons_of_mem _ (List.mem_cons_of_mem _ hw))) (hat w hw)
  have hk' : (Cond.classLink own ik cls).before args s' = true := vx_ot_at hW0 hvm.symm (hgood _ List.mem_cons_self) hk
  have hini' : (Cond.initialized cls).before args s' = true := vx_ot_at hW0 hvm.symm (hgood _ (List.mem_cons_of_mem _ List.mem_cons_self)) hini
  have hU' : vx_Zq Bundle.tN "UNASSIGNED_STACK" Bundle.steD A s' s'.heap := by rw [hhp]; exact vx_Zq.moved hW0.alike (hU.kept hS.2.1)
  have hN' : vx_Zq Bundle.tN "SUPPRESSED_SENTINEL" Bundle.listD A s' s'.heap := by rw [hhp]; exact vx_Zq.moved hW0.alike (hN.kept hS.2.1)
  have h : ∀ w ∈ Bundle.ownAtoms own ic cls names, w.before args s' = true := vx_own hat' (vx_isRefq hU'.1) (vx_isRefq hN'.1) hU'.2.word hN'.2.word
  have hown' : s'.vm.findClass own = some m.cls := by rw [hvm]; exact hown
  have hins : (Cond.instantiable cls 6).before args s' = true := h _ (by simp [Bundle.ownAtoms])
  obtain ⟨vm₁, cX, kX, hfX, hkX, -, -, X₁, st1⟩ := Y.newCold hexec (own := own) (C := cls) (index := ik) (n := 6) hown' hk' hins hini'
    (g := F0 m pc ls rest) rfl (by rw [hb]; exact d0) (Nat.le_refl _) (Nat.le_refl _)
  generalize hT1 : (T.setVm vm₁).pushCell { cls := cX, slots := kX.instanceTypes.map defaultValue, vm := .none } = T1 at X₁ st1
  have hcat : (Value.ref T.heap.size).category = 1 := rfl
  have hcellA : T1.heap[T.heap.size]? = some (freshCell cX kX) := by rw [← hT1]; exact State.heap_pushCell_size _ _
  have d3' : decode c.code (pc + 3) = .ok (.dup, 1) := by rw [hb]; exact d3
  have d4' : decode c.code (pc + 4) = .ok (.ldc is, 2) := by rw [hb]; exact d4
  have hstr' : vk_R own is text sa s' := vk_R.warm hW0 hstr
  obtain ⟨U, hsteps, hrun, hend, hW, hsame, ce, hce, hO⟩ := X₁.ctorThrowS hexec htr (own := own) (cls := cls) (names := names) (ic := ic) hown' hcls hnames h (fun x hx => nomatch hx) hfX hkX hcellA (by rw [hhp, hT]; exact Nat.le_refl _) (msg := .ref sa) rfl
    (g := { method := m, pc := pc + 6, locals := ls, stack := .ref sa :: .ref T.heap.size :: .ref T.heap.size :: rest, locked := none }) rfl hsize rfl rfl (rest := rest) rfl
    (by rw [hb]; exact d6) (by rw [hb]; exact d9) hout hRframes (by simp only [List.map_cons, List.sum_cons, hcat]; omega) hlocks
  obtain ⟨f1, f2⟩ := vx_frame hsame
  rw [hhp] at f1 f2
  have hus : bp_us b0 U.heap ≤ bp_us b0 H + 7 := by
    obtain ⟨-, k2, k3, -, k5, k6⟩ := hsame
    have k2' : H.size ≤ U.heap.size := by rw [← hhp]; exact k2
    have k3' : U.heap.size ≤ H.size + (0 + 1) := by rw [← hhp]; exact k3
    have k5' : ((U.heap.toList.drop H.size).map (fun c : Cell => c.slots.size)).sum ≤ 0 + 6 := by rw [← hhp]; exact k5
    have g := bp_us_grow (b := b0) (H0 := H) (H := U.heap) hb0 k2' (fun q c9 hc9 => by
      obtain ⟨c', e1, -, e3, -⟩ := k6 q c9 (by rw [hhp]; exact hc9)
      exact ⟨c', e1, e3⟩)
    omega
  have hWs : s.WarmedH U.vm := State.WarmedH.trans hW0 hW
  have hcl : s.vm.findClass cls = some ce.cls := by
    have h9 := hO.cls
    rw [hvm] at h9
    exact h9
  have hall : s.sameButNew ({ U with vm := s.vm } : State) locs mc ms := by
    subst hA
    obtain ⟨e1, e2⟩ := hsame
    rw [State.setFrames_setFrames] at e1
    have h2 : (T.setVm s.vm).sameButNew ({ U with vm := s.vm } : State) [] (0 + 1) (0 + 6) := ⟨e1, e2⟩
    have h3 := X.same.trans h2
    rw [List.append_nil] at h3
    exact h3.mono hc hs
  refine ⟨U, ?_, .threw T.heap.size, hrun, hend, Or.inr ⟨T.heap.size, rfl, cls, ce, locs, hx U hWs.alike f1 (fun q hq => f2 q hq (fun z hz => nomatch hz)) hus, hce, hO.vm, hcl, hWs, hall, hf⟩⟩
  refine st1 _ ?_
  show Steps p.tables e below (T1.setTop { method := m, pc := pc + 3, locals := ls, stack := .ref T.heap.size :: rest, locked := none }) _
  jvm_step X₁.here [X₁.here.top, hexec, d3', Value.category]
  exact X₁.ldcString hexec (own := own) (text := text) (index := is) (a := sa) hown' hstr'.1 hstr'.2
    (g := { method := m, pc := pc + 4, locals := ls, stack := .ref T.heap.size :: .ref T.heap.size :: rest, locked := none }) rfl d4' _ hsteps
end BPT
section BPE
variable {G : bp_X} {M : bp_M} {d pc : Nat} {lv : List (Nat × Value)} {st : List Value} {h : bp_H} {Φ : bp_O → bp_H → Prop}
theorem bp_iret {ty : FieldType} {x : Int32} (hd : decode (bp_c M) pc = .ok (.ireturn, 1)) (hr : bp_r M = some ty) (hn : narrow ty (.int x) = .int x) (hΦ : Φ (.inl (some (.int x))) h) : bp_W G M d pc lv [.int x] h Φ := by
  intro p e R s m args below meth c H locs ls hC hR hS hL hu
  have h1 := hR.2.1
  have h2 := hR.2.2.1
  refine W.widen (k := bp_max - bp_us (bp_B G) s.heap) (n := bp_max - bp_us (bp_B G) s.heap) (by omega) (by omega) (vx_ret ?_)
  exact W.zret hC.1 hC.2.1 (hC.2.2.2.1.trans hr) hn (fun t ht hW => ⟨_, h, rfl, hΦ, by rw [ht]; exact hR, hS.F ht⟩) hS.2.2 hd (hlocks := hC.2.2.2.2.2.2.1)
theorem bp_vret (hd : decode (bp_c M) pc = .ok (.return_, 1)) (hr : bp_r M = none) (hΦ : Φ (.inl none) h) : bp_W G M d pc lv [] h Φ := by
  intro p e R s m args below meth c H locs ls hC hR hS hL hu
  have h1 := hR.2.1
  have h2 := hR.2.2.1
  refine W.widen (k := bp_max - bp_us (bp_B G) s.heap) (n := bp_max - bp_us (bp_B G) s.heap) (by omega) (by omega) (vx_ret ?_)
  exact W.vret hC.1 hC.2.1 (hC.2.2.2.1.trans hr) (fun t ht hW => ⟨_, h, rfl, hΦ, by rw [ht]; exact hR, hS.F ht⟩) hS.2.2 hd (hlocks := hC.2.2.2.2.2.2.1)
theorem bp_aretV {rt : FieldType} {v : Value} (hd : decode (bp_c M) pc = .ok (.areturn, 1)) (hr : bp_r M = some rt) (hrt : (∃ n, rt = .object n) ∨ ∃ t, rt = .array t) (hv : v = .null ∨ ∃ a, v = .ref a) (hΦ : Φ (.inl (some v)) h) : bp_W G M d pc lv [v] h Φ := by
  intro p e R s m args below meth c H locs ls hC hR hS hL hu
  have h1 := hR.2.1
  have h2 := hR.2.2.1
  refine W.widen (k := bp_max - bp_us (bp_B G) s.heap) (n := bp_max - bp_us (bp_B G) s.heap) (by omega) (by omega) (vx_ret ?_)
  exact W.aret hC.1 hC.2.1 (hC.2.2.2.1.trans hr) hrt hv (fun t ht hW => ⟨_, h, rfl, hΦ, by rw [ht]; exact hR, hS.F ht⟩) hS.2.2 hd (hlocks := hC.2.2.2.2.2.2.1)
theorem bp_aret {n : String} {a : Nat} (hd : decode (bp_c M) pc = .ok (.areturn, 1)) (hr : bp_r M = some (.object n)) (hΦ : Φ (.inl (some (.ref a))) h) : bp_W G M d pc lv [.ref a] h Φ := bp_aretV hd hr (Or.inl ⟨n, rfl⟩) (Or.inr ⟨a, rfl⟩) hΦ
theorem bp_aretA {t : FieldType} {a : Nat} (hd : decode (bp_c M) pc = .ok (.areturn, 1)) (hr : bp_r M = some (.array t)) (hΦ : Φ (.inl (some (.ref a))) h) : bp_W G M d pc lv [.ref a] h Φ := bp_aretV hd hr (Or.inr ⟨t, rfl⟩) (Or.inr ⟨a, rfl⟩) hΦ
theorem bp_aretN {n : String} (hd : decode (bp_c M) pc = .ok (.areturn, 1)) (hr : bp_r M = some (.object n)) (hΦ : Φ (.inl (some .null)) h) : bp_W G M d pc lv [.null] h Φ := bp_aretV hd hr (Or.inl ⟨n, rfl⟩) (Or.inl rfl) hΦ
/-- the words of a throw of class cls, by entries ik, is, ic of class own -/
def bp_TW (own : String) (ik is ic : Nat) (cls text : String) (names : List String) : Prop :=
  Bundle.fit cls = true ∧ (∀ n ∈ names, Bundle.fit n = true) ∧ names.length ≤ 2 ∧ Cond.classLink own ik cls ∈ bp_UW ∧ Cond.initialized cls ∈ bp_UW ∧ (own, is, text) ∈ bp_strs ∧ (∀ w ∈ vx_atS own ic cls names, w ∈ bp_UW) ∧ (∀ w ∈ Cond.classLink own ik cls :: Cond.initialized cls :: vx_atS own ic cls names, vx_ot w = true)
theorem bp_throw {ik is ic : Nat} {cls text : String} {names : List String} (d0 : decode (bp_c M) pc = .ok (.new ik, 3)) (d3 : decode (bp_c M) (pc + 3) = .ok (.dup, 1)) (d4 : decode (bp_c M) (pc + 4) = .ok (.ldc is, 2)) (d6 : decode (bp_c M) (pc + 6) = .ok (.invokespecial ic, 3)) (d9 : decode (bp_c M) (pc + 9) = .ok (.athrow, 1))
    (hw : bp_TW (bp_own_ M) ik is ic cls text names) (ht : bp_t M = []) (hd : 6 ≤ d) (hst : (st.map fun v => v.category).sum ≤ 8) (hm : h.2.2 + 7 ≤ bp_max) (hΦ : Φ (.inr cls) (bp_more h 7)) : bp_W G M d pc lv st h Φ := by
  intro p e R s m args below meth c H locs ls hC hR hS hL hu
  obtain ⟨w1, w2, w3, w4, w5, w6, w7, w8⟩ := hw
  obtain ⟨h1, h2, h3, h4, h5, h6, h7, h8, h9, h10, h11, h12, h13, -⟩ := hC.2.2.2.2.2.2.2.1
  have hts := hC.2.2.2.2.2.1
  obtain ⟨sa, hsa⟩ := h6 _ w6
  obtain ⟨r1, r2, -⟩ := hC.2.2.2.2.2.2.2.2.2.2.2
  have hr := bp_room hC hR hu hm
  have hu2 := hR.2.1
  refine bp_throwS0 (b0 := bp_B G) hR.2.2.2 hC.1 hC.2.1 h13 (A := bp_A G) hC.2.2.2.2.1 w1 w2 (hts _ w4) (hts _ w5) hsa (fun w hw => hts _ (w7 w hw)) w8 h4 h5 hS (by rw [hC.2.2.1]; exact hL.1) d0 d3 d4 d6 d9 ?_ (by omega) (by omega) (by omega) (by omega) hC.2.2.2.2.2.2.1 ?_ hS.2.2 (by omega) (by omega)
  · rw [hC.2.2.2.2.2.2.2.2.2.1, ht]
    intro x hx
    cases hx
  · intro t hal hz hq hus
    refine ⟨bp_more h 7, hΦ, ⟨fun a => ?_, ?_, hm, Nat.le_trans hR.2.2.2 hz⟩, Nat.le_trans hS.1 hz, fun q g1 g2 => (hq q (Nat.lt_of_lt_of_le g1 hS.1)).trans (hS.2.1 q g1 g2)⟩
    · by_cases e2 : (h.1 a).1 = 1 ∨ (h.1 a).1 = 2
      · exact (hR.1 a).kept (hq a ((hR.1 a).lt e2))
      · exact ⟨fun z => absurd (Or.inl z) e2, fun z => absurd (Or.inr z) e2⟩
    · show bp_us (bp_B G) t.heap ≤ h.2.2 + 7
      omega
/-- with an object of class E thrown over the frame -/
def bp_Wx (G : bp_X) (M : bp_M) (d : Nat) (pc : Nat) (lv : List (Nat × Value)) (st : List Value) (h : bp_H) (E : String) (Φ : bp_O → bp_H → Prop) : Prop :=
  ∀ (p : Program) (e : Env) (R : Room) (s : State) (m : MethodId) (args : Array Value) (below : List Frame) (meth : Method) (c : Code) (H : Heap) (locs : List Loc) (ls : Array Slot) (q : Nat) (ce : Cell),
    bp_C G M d p R s m args meth c → bp_R G h H → va_S (bp_A G) s.heap H locs → lv_has ls (bp_n M) lv → bp_us (bp_B G) s.heap ≤ bp_us (bp_B G) H → H[q]? = some ce → ce.vm = .none → s.vm.findClass E = some ce.cls →
    vx_W p (bp_l G) e R s m args below meth c H locs (bp_us (bp_B G) H - bp_us (bp_B G) s.heap) (bp_us (bp_B G) H - bp_us (bp_B G) s.heap)
      (vx_MQ below (bp_Qc G Φ) (bp_XC G Φ) args s (bp_max - bp_us (bp_B G) s.heap) (bp_max - bp_us (bp_B G) s.heap) (bp_A G)) (F0 m pc ls st) q
theorem bp_out {E : String} (ht : bp_t M = []) (hΦ : Φ (.inr E) h) : bp_Wx G M d pc lv st h E Φ := by
  intro p e R s m args below meth c H locs ls q ce hC hR hS hL hu hq hv hcl
  have h1 := hR.2.1
  have h2 := hR.2.2.1
  refine vx_out ?_ hC.2.2.2.2.2.2.1 hq hv hcl (fun t ht hal => ⟨h, hΦ, by rw [ht]; exact hR, hS.F ht⟩) hS.2.2 (by omega) (by omega)
  rw [hC.2.2.2.2.2.2.2.2.2.1, ht]
  intro x hx
  cases hx
/-- caught: the rows 'pre' of the table don't take it, row x does -/
theorem bp_catch {E name : String} {x : Nat × Nat × Nat × Nat} (pre suf : List (Nat × Nat × Nat × Nat)) (hsplit : bp_t M = pre ++ x :: suf) (hpass : ∀ z ∈ pre, covers ⟨z.1, z.2.1, z.2.2.1, z.2.2.2⟩ pc = false ∨ (z.2.2.2 ≠ 0 ∧ ∃ nm : String, Cond.classLink (bp_own_ M) z.2.2.2 nm ∈ bp_UW ∧ (E, nm) ∈ bp_ncs))
    (hx : covers ⟨x.1, x.2.1, x.2.2.1, x.2.2.2⟩ pc = true) (h0 : x.2.2.2 ≠ 0) (hlink : Cond.classLink (bp_own_ M) x.2.2.2 name ∈ bp_UW) (hcast : Cond.castable E name ∈ bp_UW) (kk : ∀ q : Nat, bp_W G M d x.2.2.1 lv [.ref q] h Φ) : bp_Wx G M d pc lv st h E Φ := by
  intro p e R s m args below meth c H locs ls q ce hC hR hS hL hu hq hv hcl
  have hts := hC.2.2.2.2.2.1
  obtain ⟨h1, h2, h3, h4, h5, h6, h7, h8, h9, h10, h11, h12, h13, h14⟩ := hC.2.2.2.2.2.2.2.1
  refine vx_catch hC.2.2.2.2.1 (tableOf pre) ⟨x.1, x.2.1, x.2.2.1, x.2.2.2⟩ (tableOf suf) ?_ ?_ hx h0 (hts _ hlink) (hts _ hcast) hq hv hcl (kk q p e R s m args below meth c H locs ls hC hR hS hL hu)
  · rw [hC.2.2.2.2.2.2.2.2.2.1, hsplit]
    simp [tableOf]
  · intro z hz
    obtain ⟨w, hw, rfl⟩ := List.mem_map.mp hz
    rcases hpass w hw with g | ⟨g1, nm, g2, g3⟩
    · exact Or.inl g
    · exact Or.inr ⟨g1, nm, hts _ g2, h14 _ g3⟩
/-- the method's own word -/
def bp_cw (M : bp_M) : Cond := if bp_t M = [] then .code (bp_y M) (bp_c M) (bp_n M) (bp_r M) else .codeWith (bp_y M) (bp_c M) (bp_n M) (bp_r M) (bp_t M)
abbrev bp_rm (G : bp_X) (d u0 : Nat) : Room := { frames := d, cells := bp_max - u0, slots := bp_max - u0, locals := 80 * d }
abbrev bp_Pc (G : bp_X) (av : List Value) (h : bp_H) (u0 : Nat) : Array Value → State → Prop := va_Pc av (fun U => bp_us (bp_B G) U.heap = u0 ∧ bp_R G h U.heap ∧ bp_Fx G U U.heap)
/-- the method, called with av at heap h, ends as Φ says -/
def bp_S (G : bp_X) (M : bp_M) (d : Nat) (av : List Value) (h : bp_H) (Φ : bp_O → bp_H → Prop) : Prop :=
  ∀ u0 : Nat, vx_Met (bp_l G) (bp_y M) (bp_cw M :: bp_UW) (bp_rm G d u0) (bp_Pc G av h u0) (bp_Qc G Φ) (bp_XC G Φ) (bp_max - u0) (bp_max - u0) (bp_A G)
theorem bp_ofW {av : List Value} (hp : plainName (bp_y M).cls = true) (ho : bp_own_ M = (bp_y M).cls) (hlen : (lg_sl av).length ≤ bp_n M) (k : bp_W G M d 0 (lv_args 0 av) [] h Φ) : bp_S G M d av h Φ := by
  intro u0
  have key : ∀ (p : Program) (e : Env) (s : State) (m : MethodId) (args : Array Value) (below : List Frame) (meth : Method) (c : Code) (s₁ : State), BodyLoose p (bp_l G) (bp_y M) (headSpec (bp_cw M :: bp_UW) (bp_rm G d u0)) (bp_c M) (bp_n M) (bp_r M) e s m args below meth c s₁ → c.maxLocals = bp_n M → c.exceptionTable.toList = tableOf (bp_t M) → bp_Pc G av h u0 args s →
      W p (bp_l G) e (headSpec (bp_cw M :: bp_UW) (bp_rm G d u0)).room s m args below meth c s.heap [] 0 0 (vx_MQ below (bp_Qc G Φ) (bp_XC G Φ) args s (bp_max - u0) (bp_max - u0) (bp_A G)) (entryFrame m args (bp_n M)) := by
    intro p e s m args below meth c s₁ B hml htab hv
    obtain ⟨rfl, hus, hR, hF⟩ := hv
    have hown : s.vm.findClass (bp_own_ M) = some m.cls := by rw [ho]; exact findClass_of_methodNamed B.named
    have hts := atoms_spec (ws := bp_cw M :: bp_UW) B.pre
    have hl := lv_entry av (n := bp_n M) hlen
    rw [lg_entry_eq]
    have k' := k p e (bp_rm G d u0) s m av.toArray below meth c s.heap [] _ ⟨B.exec, B.bytes, hml, B.returns, hown, fun w hw => hts w (List.mem_cons_of_mem _ hw), B.notSynchronized, hF, ⟨hR.2.2.2, Nat.le_trans hR.2.1 hR.2.2.1⟩, htab, fun hi => by rw [← hi]; exact (name_of_methodNamed B.named B.method).1, ⟨Nat.le_refl _, Nat.le_refl _, by show bp_max ≤ bp_max - u0 + _; rw [hus]; omega, by show bp_max ≤ bp_max - u0 + _; rw [hus]; omega⟩⟩ hR va_S.rf hl (Nat.le_refl _)
    rw [Nat.sub_self, hus] at k'
    exact k'
  by_cases ht : bp_t M = []
  · refine vx_ofW hp (show bp_cw M :: bp_UW = Cond.code (bp_y M) (bp_c M) (bp_n M) (bp_r M) :: bp_UW by unfold bp_cw; rw [if_pos ht]) ?_
    intro p e s m args below meth c s₁ B hml htab hv
    refine key p e s m args below meth c s₁ B hml ?_ hv
    rw [ht]
    cases hq : c.exceptionTable.toList with
    | nil => rfl
    | cons x r => exact absurd (htab x (by rw [hq]; exact List.mem_cons_self)) id
  · refine vx_ofWH hp (show bp_cw M :: bp_UW = Cond.codeWith (bp_y M) (bp_c M) (bp_n M) (bp_r M) (bp_t M) :: bp_UW by unfold bp_cw; rw [if_neg ht]) ?_
    intro p e s m args below meth c s₁ B hml hv
    refine key p e s m args below meth c s₁ B hml ?_ hv
    have hts := atoms_spec (ws := bp_cw M :: bp_UW) B.pre (bp_cw M) List.mem_cons_self
    unfold bp_cw at hts
    rw [if_neg ht] at hts
    exact vx_table (x := bp_y M) B hts
/-- entry idx of class own names the method M' for a call of n arguments -/
def bp_MB (own : String) (idx : Nat) (M' : bp_M) (n : Nat) : Prop :=
  Cond.methodLink own idx (bp_y M') ∈ bp_UW ∧ Cond.initialized (bp_y M').cls ∈ bp_UW ∧ bp_cw M' ∈ bp_UW ∧ ((bp_y M').cls ≠ "java/lang/invoke/MethodHandle" ∧ (bp_y M').cls ≠ "java/lang/invoke/VarHandle") ∧ (parseMethodDescriptor (bp_y M').desc).map (fun d => d.parameters.length) = some n
def bp_MV (own : String) (idx : Nat) (M' : bp_M) (n : Nat) (C : String) : Prop := bp_MB own idx M' n ∧ bp_t M' = [] ∧ Cond.instanceMethod (bp_y M') ∈ bp_UW ∧ Cond.selects C (bp_y M') (bp_y M') ∈ bp_UW
def bp_MS (own : String) (idx : Nat) (M' : bp_M) (n : Nat) : Prop := bp_MB own idx M' n ∧ Cond.static (bp_y M') ∈ bp_UW
def bp_MI (own : String) (idx : Nat) (M' : bp_M) (n : Nat) : Prop := bp_MB own idx M' n ∧ bp_t M' = [] ∧ (bp_y M').name = "<init>" ∧ bp_r M' = none ∧ Cond.instanceMethod (bp_y M') ∈ bp_UW
theorem bp_ws {p : Program} {R : Room} {s : State} {m : MethodId} {args : Array Value} {meth : Method} {c : Code} (hC : bp_C G M d p R s m args meth c) {M' : bp_M} (hw : bp_cw M' ∈ bp_UW) : ∀ w ∈ bp_cw M' :: bp_UW, ∀ (a' : Array Value) (U : State), s.WarmedH U.vm → w.before a' U = true := by
  intro w hq a' U hW
  rcases List.mem_cons.mp hq with rfl | hq
  · exact bp_later hw (hC.2.2.2.2.2.1 _ hw) hW
  · exact bp_later hq (hC.2.2.2.2.2.1 _ hq) hW
theorem bp_callB {p : Program} {R : Room} {s : State} {m : MethodId} {args : Array Value} {meth : Method} {c : Code} (hC : bp_C G M d p R s m args meth c) {M' : bp_M} {idx n d' u0 : Nat} (hm : bp_MB (bp_own_ M) idx M' n) (ht : bp_t M' = []) (hd : d' + 1 ≤ d) (hn : bp_n M' ≤ 60) :
    CallB R s args (bp_own_ M) idx (bp_y M') (bp_c M') (bp_n M') (bp_r M') (bp_cw M' :: bp_UW) (bp_rm G d' u0) (bp_max - u0) (bp_max - u0) n := by
  have hts := hC.2.2.2.2.2.1
  obtain ⟨m1, m2, m3, m4, m5⟩ := hm
  obtain ⟨r1, r2, -⟩ := hC.2.2.2.2.2.2.2.2.2.2.2
  have hcw : bp_cw M' = Cond.code (bp_y M') (bp_c M') (bp_n M') (bp_r M') := by unfold bp_cw; rw [if_pos ht]
  refine ⟨rfl, rfl, by show d' + 1 ≤ _; omega, by show 8 + (bp_n M' + 11) + 80 * d' ≤ _; omega, bp_ws hC m3, by rw [hcw]; exact List.mem_cons_self, by rw [← hcw]; exact hts _ m3, hts _ m2, m4, fun sig h9 => ?_, hts _ m1⟩
  rw [h9] at m5
  exact (Option.some.inj m5).symm
/-- what stands at the callee's start -/
theorem bp_pre {p : Program} {R : Room} {s : State} {m : MethodId} {args : Array Value} {meth : Method} {c : Code} {H : Heap} {locs : List Loc} {As : List Value} (hC : bp_C G M d p R s m args meth c) (hR : bp_R G h H) (hS : va_S (bp_A G) s.heap H locs) : PreS s H (bp_Pc G As h (bp_us (bp_B G) H)) As := by
  refine ⟨fun a U g mk q => ?_, fun U hU hW => ?_⟩
  · obtain ⟨q1, q2, q3, q4⟩ := q
    exact ⟨q1, q2, q3, bp_Fx.moved (State.WarmedH.refl U) (fun _ _ _ => rfl) q4⟩
  · refine ⟨rfl, by rw [hU], by rw [hU]; exact hR, ?_⟩
    exact bp_Fx.moved hW (fun q g1 g2 => by rw [hU]; exact hS.2.1 q g1 g2) hC.2.2.2.2.2.2.2.1
/-- behind a call -/
theorem bp_back {p : Program} {e : Env} {R : Room} {s : State} {m : MethodId} {args : Array Value} {below : List Frame} {meth : Method} {c : Code} {H : Heap} {locs : List Loc} {ls : Array Slot} {st0 : List Value} {a : Array Value} {Φ' : bp_O → bp_H → Prop}
    (hC : bp_C G M d p R s m args meth c) (hR : bp_R G h H) (hS : va_S (bp_A G) s.heap H locs) (hL : lv_has ls (bp_n M) lv) (hu : bp_us (bp_B G) s.heap ≤ bp_us (bp_B G) H)
    (hr : vx_Run p (bp_l G) e R s m args below meth c H locs (bp_us (bp_B G) H - bp_us (bp_B G) s.heap) (bp_us (bp_B G) H - bp_us (bp_B G) s.heap) (bp_max - bp_us (bp_B G) H) (bp_max - bp_us (bp_B G) H) (F0 m pc ls st0) st (bp_Qc G Φ' a) (bp_XC G Φ') (bp_A G))
    (kk : ∀ (v : Option Value) (h' : bp_H), Φ' (.inl v) h' → bp_W G M d (pc + 3) lv (v.toList ++ st) h' Φ) (kx : ∀ (E : String) (h' : bp_H), Φ' (.inr E) h' → bp_Wx G M d pc lv st h' E Φ) :
    W p (bp_l G) e R s m args below meth c H locs (bp_us (bp_B G) H - bp_us (bp_B G) s.heap) (bp_us (bp_B G) H - bp_us (bp_B G) s.heap)
      (vx_MQ below (bp_Qc G Φ) (bp_XC G Φ) args s (bp_max - bp_us (bp_B G) s.heap) (bp_max - bp_us (bp_B G) s.heap) (bp_A G)) (F0 m pc ls st0) := by
  intro T hT X
  rcases hr T hT X with ⟨v, st₀, t, T', L, g0, X', hLf, e1, e2, ⟨v', h', hv, hp, hR', hF⟩, go⟩ | ⟨q, st₀, t, T', L, E, ce, g0, X', hLf, e1, e2, ⟨h', hp, hR', hF⟩, hce, hcv, hcl, go⟩
  · cases hv
    obtain ⟨k1, k2, k3⟩ := vx_keep g0 e1 hS (fun _ _ z => z) (fun _ z => z) hLf hF
    obtain ⟨w1, X2⟩ := bp_tight X' hC.2.2.2.2.2.2.2.2.1.1
    rw [← e1] at hR'
    obtain ⟨t2, a1, b1⟩ := kk v h' hp p e R s m args below meth c T'.heap (locs ++ L) ls hC hR' k3 hL w1 T' rfl X2
    exact ⟨t2, go t2 a1, b1⟩
  · obtain ⟨k1, k2, k3⟩ := vx_keep g0 e1 hS (fun _ _ z => z) (fun _ z => z) hLf hF
    obtain ⟨w1, X2⟩ := bp_tight X' hC.2.2.2.2.2.2.2.2.1.1
    rw [← e1] at hR' hce
    obtain ⟨t2, a1, b1⟩ := kx E h' hp p e R s m args below meth c T'.heap (locs ++ L) ls q ce hC hR' k3 hL w1 hce hcv hcl T' rfl X2
    exact ⟨t2, go.trans a1, b1⟩
theorem bp_fix {p : Program} {R : Room} {s : State} {m : MethodId} {args : Array Value} {meth : Method} {c : Code} (hC : bp_C G M d p R s m args meth c) : CallFix p m c (bp_c M) (bp_n M) s args bp_UW (bp_own_ M) := ⟨hC.1, hC.2.1, hC.2.2.1, hC.2.2.2.2.1, hC.2.2.2.2.2.1⟩
theorem bp_left {p : Program} {R : Room} {s : State} {m : MethodId} {args : Array Value} {meth : Method} {c : Code} {H : Heap} (hC : bp_C G M d p R s m args meth c) (hR : bp_R G h H) (hu : bp_us (bp_B G) s.heap ≤ bp_us (bp_B G) H) :
    bp_us (bp_B G) H - bp_us (bp_B G) s.heap + (bp_max - bp_us (bp_B G) H) ≤ R.cells ∧ bp_us (bp_B G) H - bp_us (bp_B G) s.heap + (bp_max - bp_us (bp_B G) H) ≤ R.slots := by
  obtain ⟨-, -, r1, r2⟩ := hC.2.2.2.2.2.2.2.2.2.2.2
  have h1 := hR.2.1
  have h2 := hR.2.2.1
  omega
theorem bp_callV {M' : bp_M} {idx d' b ci N : Nat} {As : List Value} {C : String} {T : u_T} {Φ' : bp_O → bp_H → Prop} (hd : decode (bp_c M) pc = .ok (.invokevirtual idx, 3)) (hc : bp_cl[ci]? = some (C, T, N)) (hm : bp_MV (bp_own_ M) idx M' As.length C) (hk : (h.1 b).1 = 1 ∧ (h.1 b).2.1 = ci)
    (hM : bp_S G M' d' (.ref b :: As) h Φ') (hdd : d' + 1 ≤ d) (hn : bp_n M' ≤ 60) (hst : (st.map fun v => v.category).sum ≤ 8) {st0 : List Value} (hst0 : st0 = As.reverse ++ .ref b :: st)
    (kk : ∀ (v : Option Value) (h' : bp_H), Φ' (.inl v) h' → bp_W G M d (pc + 3) lv (v.toList ++ st) h' Φ) (kx : ∀ (E : String) (h' : bp_H), Φ' (.inr E) h' → bp_Wx G M d pc lv st h' E Φ) : bp_W G M d pc lv st0 h Φ := by
  intro p e R s m args below meth c H locs ls hC hR hS hL hu
  have hts := hC.2.2.2.2.2.1
  obtain ⟨m1, m2, m3, m4⟩ := hm
  have hp := bp_pre (As := .ref b :: As) hC hR hS
  exact bp_back hC hR hS hL hu (vx_runV (g := F0 m pc ls st0) (bp_fix hC) (hM _) ⟨bp_callB hC m1 m2 hdd hn, hts _ m3, hts _ m4⟩ ⟨hp.1, bp_recv hC hR hc hk, hp.2⟩ rfl rfl hL.1 hst0 (lv_room hst) hd (bp_left hC hR hu)) kk kx
theorem bp_callS {M' : bp_M} {idx d' : Nat} {As : List Value} {Φ' : bp_O → bp_H → Prop} (hd : decode (bp_c M) pc = .ok (.invokestatic idx, 3)) (hm : bp_MS (bp_own_ M) idx M' As.length)
    (hM : bp_S G M' d' As h Φ') (hdd : d' + 1 ≤ d) (hn : bp_n M' ≤ 60) (hst : (st.map fun v => v.category).sum ≤ 8) {st0 : List Value} (hst0 : st0 = As.reverse ++ st)
    (kk : ∀ (v : Option Value) (h' : bp_H), Φ' (.inl v) h' → bp_W G M d (pc + 3) lv (v.toList ++ st) h' Φ) (kx : ∀ (E : String) (h' : bp_H), Φ' (.inr E) h' → bp_Wx G M d pc lv st h' E Φ) : bp_W G M d pc lv st0 h Φ := by
  intro p e R s m args below meth c H locs ls hC hR hS hL hu
  have hts := hC.2.2.2.2.2.1
  obtain ⟨m1, m2⟩ := hm
  have hp := bp_pre (As := As) hC hR hS
  by_cases ht : bp_t M' = []
  · exact bp_back hC hR hS hL hu (vx_runS (g := F0 m pc ls st0) (bp_fix hC) (hM _) ⟨bp_callB hC m1 ht hdd hn, hts _ m2⟩ hp rfl rfl hL.1 hst0 (lv_room hst) hd (bp_left hC hR hu)) kk kx
  · have hcw : bp_cw M' = Cond.codeWith (bp_y M') (bp_c M') (bp_n M') (bp_r M') (bp_t M') := by unfold bp_cw; rw [if_neg ht]
    obtain ⟨n1, n2, n3, n4, n5⟩ := m1
    obtain ⟨r1, r2, -⟩ := hC.2.2.2.2.2.2.2.2.2.2.2
    refine bp_back hC hR hS hL hu (vx_runSX (g := F0 m pc ls st0) (hh := bp_t M') (bytes := bp_c M') (maxL := bp_n M') (ret := bp_r M') (n := As.length) (bp_fix hC) (hM _) ⟨⟨rfl, rfl, by show d' + 1 ≤ _; omega, by show 8 + (bp_n M' + 11) + 80 * d' ≤ _; omega, bp_ws hC n3, by rw [hcw]; exact List.mem_cons_self⟩, by rw [← hcw]; exact hts _ n3, hts _ n2, n4, fun sig h9 => ?_, hts _ n1, hts _ m2⟩ hp rfl rfl hL.1 hst0 (lv_room hst) hd (bp_left hC hR hu)) kk kx
    rw [h9] at n5
    exact (Option.some.inj n5).symm
theorem bp_callI {M' : bp_M} {idx d' b : Nat} {As : List Value} {Φ' : bp_O → bp_H → Prop} (hd : decode (bp_c M) pc = .ok (.invokespecial idx, 3)) (hm : bp_MI (bp_own_ M) idx M' As.length)
    (hM : bp_S G M' d' (.ref b :: As) h Φ') (hdd : d' + 1 ≤ d) (hn : bp_n M' ≤ 60) (hst : (st.map fun v => v.category).sum ≤ 8) {st0 : List Value} (hst0 : st0 = As.reverse ++ .ref b :: st)
    (kk : ∀ (v : Option Value) (h' : bp_H), Φ' (.inl v) h' → bp_W G M d (pc + 3) lv (v.toList ++ st) h' Φ) (kx : ∀ (E : String) (h' : bp_H), Φ' (.inr E) h' → bp_Wx G M d pc lv st h' E Φ) : bp_W G M d pc lv st0 h Φ := by
  intro p e R s m args below meth c H locs ls hC hR hS hL hu
  have hts := hC.2.2.2.2.2.1
  obtain ⟨m1, m2, m3, m4, m5⟩ := hm
  have hp := bp_pre (As := .ref b :: As) hC hR hS
  have hB := bp_callB (u0 := bp_us (bp_B G) H) hC m1 m2 hdd hn
  rw [m4] at hB
  exact bp_back hC hR hS hL hu (vx_runI (g := F0 m pc ls st0) (bp_fix hC) (hM _) ⟨hB, m3, hts _ m5⟩ hp rfl rfl hL.1 hst0 (lv_room hst) hd (bp_left hC hR hu)) kk kx
theorem bp_objInit {idx b : Nat} (hd : decode (bp_c M) pc = .ok (.invokespecial idx, 3)) (hw : Cond.methodLink (bp_own_ M) idx Lib.objectInit ∈ bp_UW ∧ Cond.instanceMethod Lib.objectInit ∈ bp_UW ∧ Cond.code Lib.objectInit ⟨#[0xb1]⟩ 1 none ∈ bp_UW) (hdd : 1 ≤ d) (hst : (st.map fun v => v.category).sum ≤ 8) (kk : bp_W G M d (pc + 3) lv st h Φ) : bp_W G M d pc lv (.ref b :: st) h Φ := by
  intro p e R s m args below meth c H locs ls hC hR hS hL hu
  have hts := hC.2.2.2.2.2.1
  obtain ⟨r1, r2, -⟩ := hC.2.2.2.2.2.2.2.2.2.2.2
  have h9 := lv_room (m := m) (pc := pc) (ls := ls) (rest := .ref b :: st) hst
  exact W.objInit hC.1 hC.2.1 hC.2.2.2.2.1 (hts _ hw.1) (hts _ hw.2.1) (hts _ hw.2.2) rfl (by rw [hC.2.2.1]; exact hL.1) rfl hd (by omega) (by omega) (kk p e R s m args below meth c H locs ls hC hR hS hL hu)
theorem bp_mmax {idx : Nat} {x y : Int32} (hd : decode (bp_c M) pc = .ok (.invokestatic idx, 3)) (hw : Cond.methodLink (bp_own_ M) idx Lib.Math.max.name ∈ bp_UW ∧ Cond.static Lib.Math.max.name ∈ bp_UW ∧ Cond.initialized "java/lang/Math" ∈ bp_UW ∧ Cond.code Lib.Math.max.name Lib.Math.max.code 2 (some .int) ∈ bp_UW) (hdd : 1 ≤ d) (hst : (st.map fun v => v.category).sum ≤ 8) (kk : bp_W G M d (pc + 3) lv (.int (if x < y then y else x) :: st) h Φ) : bp_W G M d pc lv (.int y :: .int x :: st) h Φ := by
  intro p e R s m args below meth c H locs ls hC hR hS hL hu
  have hts := hC.2.2.2.2.2.1
  obtain ⟨r1, r2, -⟩ := hC.2.2.2.2.2.2.2.2.2.2.2
  have hr := bp_left hC hR hu
  exact va_mmax hC.1 hC.2.1 (by rw [hC.2.2.1]; exact hL.1.symm) hC.2.2.2.2.1 (hts _ hw.1) (hts _ hw.2.1) (hts _ hw.2.2.1) (hts _ hw.2.2.2) (by omega) (by omega) (by omega) (by omega) hd (kk p e R s m args below meth c H locs ls hC hR hS hL hu)
theorem bp_mmin {idx : Nat} {x y : Int32} (hd : decode (bp_c M) pc = .ok (.invokestatic idx, 3)) (hw : Cond.methodLink (bp_own_ M) idx Lib.Math.min.name ∈ bp_UW ∧ Cond.static Lib.Math.min.name ∈ bp_UW ∧ Cond.initialized "java/lang/Math" ∈ bp_UW ∧ Cond.code Lib.Math.min.name Lib.Math.min.code 2 (some .int) ∈ bp_UW) (hdd : 1 ≤ d) (hst : (st.map fun v => v.category).sum ≤ 8) (kk : bp_W G M d (pc + 3) lv (.int (if y < x then y else x) :: st) h Φ) : bp_W G M d pc lv (.int y :: .int x :: st) h Φ := by
  intro p e R s m args below meth c H locs ls hC hR hS hL hu
  have hts := hC.2.2.2.2.2.1
  obtain ⟨r1, r2, -⟩ := hC.2.2.2.2.2.2.2.2.2.2.2
  have hr := bp_left hC hR hu
  exact va_mmin hC.1 hC.2.1 (by rw [hC.2.2.1]; exact hL.1.symm) hC.2.2.2.2.1 (hts _ hw.1) (hts _ hw.2.1) (hts _ hw.2.2.1) (hts _ hw.2.2.2) (by omega) (by omega) (by omega) (by omega) hd (kk p e R s m args below meth c H locs ls hC hR hS hL hu)
end BPE
end
section
/-! ===== entries of the pools, by program ===== -/
theorem bp_uw {w : Cond} (i : Nat) (h : lw_tbl[i]? = some w) (hg : bp_good w = true) : w ∈ bp_UW := List.mem_filter.mpr ⟨List.mem_of_getElem? h, hg⟩
theorem bp_cw0 {M : bp_M} (h : bp_t M = []) : bp_cw M = Cond.code (bp_y M) (bp_c M) (bp_n M) (bp_r M) := by unfold bp_cw; rw [if_pos h]
theorem bp_cw1 {M : bp_M} (h : ¬ bp_t M = []) : bp_cw M = Cond.codeWith (bp_y M) (bp_c M) (bp_n M) (bp_r M) (bp_t M) := by unfold bp_cw; rw [if_neg h]
theorem uc_X0 : ∀ w ∈ u_ws RX0 TX0 5, w ∈ bp_UW := by decide +kernel
theorem uc_X1 : ∀ w ∈ u_ws RX1 TX1 7, w ∈ bp_UW := by decide +kernel
theorem uc_X2 : ∀ w ∈ u_ws RX2 TX2 14, w ∈ bp_UW := by decide +kernel
theorem uc_X3 : ∀ w ∈ u_ws RX3 TX3 1, w ∈ bp_UW := by decide +kernel
theorem uc_X4 : ∀ w ∈ u_ws RX4 TX4 6, w ∈ bp_UW := by decide +kernel
theorem uc_X5 : ∀ w ∈ u_ws RX5 TX5 1, w ∈ bp_UW := by decide +kernel
theorem uc_X6 : ∀ w ∈ u_ws RX6 TX6 25, w ∈ bp_UW := by decide +kernel
theorem uc_Jx4a65c : ∀ w ∈ u_ws RJx4a65c TJx4a65c 3, w ∈ bp_UW := by decide +kernel
abbrev mX0_init : bp_M := (RX0, yX0_init, cX0_init, 3, (Option.none : Option ClassFile.FieldType), [])
theorem uw_483 : Cond.code ⟨"Boreplan$Job", "<init>", "(II)V"⟩ prog_2_method_1_code 3 (Option.none : Option ClassFile.FieldType) ∈ bp_UW := bp_uw 483 (by decide +kernel) (by decide +kernel)
theorem cw_X0_init : bp_cw mX0_init ∈ bp_UW := by rw [bp_cw0 rfl]; exact uw_483
abbrev mX0_append : bp_M := (RX0, yX0_append, cX0_append, 8, (Option.some FieldType.int), [])
theorem uw_535 : Cond.code ⟨"Boreplan$Job", "append", "(LBoreplan$Machine;III)I"⟩ prog_2_method_2_code 8 (Option.some FieldType.int) ∈ bp_UW := bp_uw 535 (by decide +kernel) (by decide +kernel)
theorem cw_X0_append : bp_cw mX0_append ∈ bp_UW := by rw [bp_cw0 rfl]; exact uw_535
abbrev mX1_init : bp_M := (RX1, yX1_init, cX1_init, 1, (Option.none : Option ClassFile.FieldType), [])
theorem uw_346 : Cond.code ⟨"Boreplan$Machine", "<init>", "()V"⟩ prog_3_method_1_code 1 (Option.none : Option ClassFile.FieldType) ∈ bp_UW := bp_uw 346 (by decide +kernel) (by decide +kernel)
theorem cw_X1_init : bp_cw mX1_init ∈ bp_UW := by rw [bp_cw0 rfl]; exact uw_346
abbrev mX1_insert : bp_M := (RX1, yX1_insert, cX1_insert, 3, (Option.none : Option ClassFile.FieldType), [])
theorem uw_636 : Cond.code ⟨"Boreplan$Machine", "insert", "(LBoreplan$Operation;I)V"⟩ prog_3_method_2_code 3 (Option.none : Option ClassFile.FieldType) ∈ bp_UW := bp_uw 636 (by decide +kernel) (by decide +kernel)
theorem cw_X1_insert : bp_cw mX1_insert ∈ bp_UW := by rw [bp_cw0 rfl]; exact uw_636
abbrev mX1_takeOut : bp_M := (RX1, yX1_takeOut, cX1_takeOut, 2, (Option.none : Option ClassFile.FieldType), [])
theorem uw_907 : Cond.code ⟨"Boreplan$Machine", "takeOut", "(I)V"⟩ prog_3_method_3_code 2 (Option.none : Option ClassFile.FieldType) ∈ bp_UW := bp_uw 907 (by decide +kernel) (by decide +kernel)
theorem cw_X1_takeOut : bp_cw mX1_takeOut ∈ bp_UW := by rw [bp_cw0 rfl]; exact uw_907
abbrev mX1_takeOutAllOf : bp_M := (RX1, yX1_takeOutAllOf, cX1_takeOutAllOf, 3, (Option.none : Option ClassFile.FieldType), [])
theorem uw_931 : Cond.code ⟨"Boreplan$Machine", "takeOutAllOf", "(LBoreplan$Job;)V"⟩ prog_3_method_4_code 3 (Option.none : Option ClassFile.FieldType) ∈ bp_UW := bp_uw 931 (by decide +kernel) (by decide +kernel)
theorem cw_X1_takeOutAllOf : bp_cw mX1_takeOutAllOf ∈ bp_UW := by rw [bp_cw0 rfl]; exact uw_931
abbrev mX1_exchange : bp_M := (RX1, yX1_exchange, cX1_exchange, 3, (Option.none : Option ClassFile.FieldType), [])
theorem uw_943 : Cond.code ⟨"Boreplan$Machine", "exchange", "(I)V"⟩ prog_3_method_5_code 3 (Option.none : Option ClassFile.FieldType) ∈ bp_UW := bp_uw 943 (by decide +kernel) (by decide +kernel)
theorem cw_X1_exchange : bp_cw mX1_exchange ∈ bp_UW := by rw [bp_cw0 rfl]; exact uw_943
abbrev mX1_link : bp_M := (RX1, yX1_link, cX1_link, 4, (Option.none : Option ClassFile.FieldType), [])
theorem uw_886 : Cond.code ⟨"Boreplan$Machine", "link", "()V"⟩ prog_3_method_6_code 4 (Option.none : Option ClassFile.FieldType) ∈ bp_UW := bp_uw 886 (by decide +kernel) (by decide +kernel)
theorem cw_X1_link : bp_cw mX1_link ∈ bp_UW := by rw [bp_cw0 rfl]; exact uw_886
abbrev mX1_isBrokenDuring : bp_M := (RX1, yX1_isBrokenDuring, cX1_isBrokenDuring, 3, (Option.some FieldType.boolean), [])
theorem uw_462 : Cond.code ⟨"Boreplan$Machine", "isBrokenDuring", "(II)Z"⟩ prog_3_method_7_code 3 (Option.some FieldType.boolean) ∈ bp_UW := bp_uw 462 (by decide +kernel) (by decide +kernel)
theorem cw_X1_isBrokenDuring : bp_cw mX1_isBrokenDuring ∈ bp_UW := by rw [bp_cw0 rfl]; exact uw_462
abbrev mX1_leastStart : bp_M := (RX1, yX1_leastStart, cX1_leastStart, 3, (Option.some FieldType.int), [])
theorem uw_458 : Cond.code ⟨"Boreplan$Machine", "leastStart", "(II)I"⟩ prog_3_method_8_code 3 (Option.some FieldType.int) ∈ bp_UW := bp_uw 458 (by decide +kernel) (by decide +kernel)
theorem cw_X1_leastStart : bp_cw mX1_leastStart ∈ bp_UW := by rw [bp_cw0 rfl]; exact uw_458
abbrev mX1_greatestStart : bp_M := (RX1, yX1_greatestStart, cX1_greatestStart, 3, (Option.some FieldType.int), [])
theorem uw_1026 : Cond.code ⟨"Boreplan$Machine", "greatestStart", "(II)I"⟩ prog_3_method_9_code 3 (Option.some FieldType.int) ∈ bp_UW := bp_uw 1026 (by decide +kernel) (by decide +kernel)
theorem cw_X1_greatestStart : bp_cw mX1_greatestStart ∈ bp_UW := by rw [bp_cw0 rfl]; exact uw_1026
abbrev mX1_leastLoads : bp_M := (RX1, yX1_leastLoads, cX1_leastLoads, 6, (Option.some FieldType.int), [])
theorem uw_1059 : Cond.code ⟨"Boreplan$Machine", "leastLoads", "()I"⟩ prog_3_method_10_code 6 (Option.some FieldType.int) ∈ bp_UW := bp_uw 1059 (by decide +kernel) (by decide +kernel)
theorem cw_X1_leastLoads : bp_cw mX1_leastLoads ∈ bp_UW := by rw [bp_cw0 rfl]; exact uw_1059
abbrev mX1_neededLast : bp_M := (RX1, yX1_neededLast, cX1_neededLast, 6, (Option.some FieldType.int), [])
theorem uw_1064 : Cond.code ⟨"Boreplan$Machine", "neededLast", "(II)I"⟩ prog_3_method_11_code 6 (Option.some FieldType.int) ∈ bp_UW := bp_uw 1064 (by decide +kernel) (by decide +kernel)
theorem cw_X1_neededLast : bp_cw mX1_neededLast ∈ bp_UW := by rw [bp_cw0 rfl]; exact uw_1064
abbrev mX2_init : bp_M := (RX2, yX2_init, cX2_init, 7, (Option.none : Option ClassFile.FieldType), [])
theorem uw_541 : Cond.code ⟨"Boreplan$Operation", "<init>", "(LBoreplan$Job;ILBoreplan$Machine;III)V"⟩ prog_4_method_1_code 7 (Option.none : Option ClassFile.FieldType) ∈ bp_UW := bp_uw 541 (by decide +kernel) (by decide +kernel)
theorem cw_X2_init : bp_cw mX2_init ∈ bp_UW := by rw [bp_cw0 rfl]; exact uw_541
abbrev mX2_code : bp_M := (RX2, yX2_code, cX2_code, 1, (Option.some FieldType.int), [])
theorem uw_967 : Cond.code ⟨"Boreplan$Operation", "code", "()I"⟩ prog_4_method_2_code 1 (Option.some FieldType.int) ∈ bp_UW := bp_uw 967 (by decide +kernel) (by decide +kernel)
theorem cw_X2_code : bp_cw mX2_code ∈ bp_UW := by rw [bp_cw0 rfl]; exact uw_967
abbrev mX3_init : bp_M := (RX3, yX3_init, cX3_init, 1, (Option.none : Option ClassFile.FieldType), [])
theorem uw_119 : Cond.code ⟨"Boreplan$Setups", "<init>", "()V"⟩ prog_5_method_1_code 1 (Option.none : Option ClassFile.FieldType) ∈ bp_UW := bp_uw 119 (by decide +kernel) (by decide +kernel)
theorem cw_X3_init : bp_cw mX3_init ∈ bp_UW := by rw [bp_cw0 rfl]; exact uw_119
abbrev mX3_between : bp_M := (RX3, yX3_between, cX3_between, 4, (Option.some FieldType.int), [])
theorem uw_264 : Cond.code ⟨"Boreplan$Setups", "between", "(LBoreplan$Operation;LBoreplan$Operation;)I"⟩ prog_5_method_2_code 4 (Option.some FieldType.int) ∈ bp_UW := bp_uw 264 (by decide +kernel) (by decide +kernel)
theorem cw_X3_between : bp_cw mX3_between ∈ bp_UW := by rw [bp_cw0 rfl]; exact uw_264
abbrev mX3_sumOf : bp_M := (RX3, yX3_sumOf, cX3_sumOf, 5, (Option.some FieldType.int), [])
theorem uw_1044 : Cond.code ⟨"Boreplan$Setups", "sumOf", "(LBoreplan$Machine;)I"⟩ prog_5_method_3_code 5 (Option.some FieldType.int) ∈ bp_UW := bp_uw 1044 (by decide +kernel) (by decide +kernel)
theorem cw_X3_sumOf : bp_cw mX3_sumOf ∈ bp_UW := by rw [bp_cw0 rfl]; exact uw_1044
abbrev mX4_init : bp_M := (RX4, yX4_init, cX4_init, 1, (Option.none : Option ClassFile.FieldType), [])
theorem uw_87 : Cond.code ⟨"Boreplan$Shop", "<init>", "()V"⟩ prog_6_method_1_code 1 (Option.none : Option ClassFile.FieldType) ∈ bp_UW := bp_uw 87 (by decide +kernel) (by decide +kernel)
theorem cw_X4_init : bp_cw mX4_init ∈ bp_UW := by rw [bp_cw0 rfl]; exact uw_87
abbrev mX4_insertAtBestPlace : bp_M := (RX4, yX4_insertAtBestPlace, cX4_insertAtBestPlace, 8, (Option.none : Option ClassFile.FieldType), [])
theorem uw_900 : Cond.code ⟨"Boreplan$Shop", "insertAtBestPlace", "(LBoreplan$Operation;)V"⟩ prog_6_method_2_code 8 (Option.none : Option ClassFile.FieldType) ∈ bp_UW := bp_uw 900 (by decide +kernel) (by decide +kernel)
theorem cw_X4_insertAtBestPlace : bp_cw mX4_insertAtBestPlace ∈ bp_UW := by rw [bp_cw0 rfl]; exact uw_900
abbrev mX4_timeAll : bp_M := (RX4, yX4_timeAll, cX4_timeAll, 5, (Option.some FieldType.boolean), [])
theorem uw_440 : Cond.code ⟨"Boreplan$Shop", "timeAll", "()Z"⟩ prog_6_method_3_code 5 (Option.some FieldType.boolean) ∈ bp_UW := bp_uw 440 (by decide +kernel) (by decide +kernel)
theorem cw_X4_timeAll : bp_cw mX4_timeAll ∈ bp_UW := by rw [bp_cw0 rfl]; exact uw_440
abbrev mX4_begin : bp_M := (RX4, yX4_begin, cX4_begin, 3, (Option.some FieldType.int), [])
theorem uw_444 : Cond.code ⟨"Boreplan$Shop", "begin", "()I"⟩ prog_6_method_4_code 3 (Option.some FieldType.int) ∈ bp_UW := bp_uw 444 (by decide +kernel) (by decide +kernel)
theorem cw_X4_begin : bp_cw mX4_begin ∈ bp_UW := by rw [bp_cw0 rfl]; exact uw_444
abbrev mX4_timeRow : bp_M := (RX4, yX4_timeRow, cX4_timeRow, 4, (Option.none : Option ClassFile.FieldType), [])
theorem uw_449 : Cond.code ⟨"Boreplan$Shop", "timeRow", "(LBoreplan$Machine;)V"⟩ prog_6_method_5_code 4 (Option.none : Option ClassFile.FieldType) ∈ bp_UW := bp_uw 449 (by decide +kernel) (by decide +kernel)
theorem cw_X4_timeRow : bp_cw mX4_timeRow ∈ bp_UW := by rw [bp_cw0 rfl]; exact uw_449
abbrev mX4_timeOne : bp_M := (RX4, yX4_timeOne, cX4_timeOne, 6, (Option.none : Option ClassFile.FieldType), [])
theorem uw_453 : Cond.code ⟨"Boreplan$Shop", "timeOne", "(LBoreplan$Operation;)V"⟩ prog_6_method_6_code 6 (Option.none : Option ClassFile.FieldType) ∈ bp_UW := bp_uw 453 (by decide +kernel) (by decide +kernel)
theorem cw_X4_timeOne : bp_cw mX4_timeOne ∈ bp_UW := by rw [bp_cw0 rfl]; exact uw_453
abbrev mX4_putLaterInRounds : bp_M := (RX4, yX4_putLaterInRounds, cX4_putLaterInRounds, 4, (Option.none : Option ClassFile.FieldType), [])
theorem uw_990 : Cond.code ⟨"Boreplan$Shop", "putLaterInRounds", "()V"⟩ prog_6_method_7_code 4 (Option.none : Option ClassFile.FieldType) ∈ bp_UW := bp_uw 990 (by decide +kernel) (by decide +kernel)
theorem cw_X4_putLaterInRounds : bp_cw mX4_putLaterInRounds ∈ bp_UW := by rw [bp_cw0 rfl]; exact uw_990
abbrev mX4_putRowLater : bp_M := (RX4, yX4_putRowLater, cX4_putRowLater, 6, (Option.some FieldType.boolean), [])
theorem uw_994 : Cond.code ⟨"Boreplan$Shop", "putRowLater", "(LBoreplan$Machine;)Z"⟩ prog_6_method_8_code 6 (Option.some FieldType.boolean) ∈ bp_UW := bp_uw 994 (by decide +kernel) (by decide +kernel)
theorem cw_X4_putRowLater : bp_cw mX4_putRowLater ∈ bp_UW := by rw [bp_cw0 rfl]; exact uw_994
abbrev mX4_readyInRounds : bp_M := (RX4, yX4_readyInRounds, cX4_readyInRounds, 6, (Option.some FieldType.int), [])
theorem uw_998 : Cond.code ⟨"Boreplan$Shop", "readyInRounds", "(LBoreplan$Operation;)I"⟩ prog_6_method_9_code 6 (Option.some FieldType.int) ∈ bp_UW := bp_uw 998 (by decide +kernel) (by decide +kernel)
theorem cw_X4_readyInRounds : bp_cw mX4_readyInRounds ∈ bp_UW := by rw [bp_cw0 rfl]; exact uw_998
abbrev mX4_findLatestStarts : bp_M := (RX4, yX4_findLatestStarts, cX4_findLatestStarts, 4, (Option.none : Option ClassFile.FieldType), [])
theorem uw_1017 : Cond.code ⟨"Boreplan$Shop", "findLatestStarts", "()V"⟩ prog_6_method_10_code 4 (Option.none : Option ClassFile.FieldType) ∈ bp_UW := bp_uw 1017 (by decide +kernel) (by decide +kernel)
theorem cw_X4_findLatestStarts : bp_cw mX4_findLatestStarts ∈ bp_UW := by rw [bp_cw0 rfl]; exact uw_1017
abbrev mX4_latestFinish : bp_M := (RX4, yX4_latestFinish, cX4_latestFinish, 5, (Option.some FieldType.int), [])
theorem uw_1021 : Cond.code ⟨"Boreplan$Shop", "latestFinish", "(LBoreplan$Operation;)I"⟩ prog_6_method_11_code 5 (Option.some FieldType.int) ∈ bp_UW := bp_uw 1021 (by decide +kernel) (by decide +kernel)
theorem cw_X4_latestFinish : bp_cw mX4_latestFinish ∈ bp_UW := by rw [bp_cw0 rfl]; exact uw_1021
abbrev mX4_findPath : bp_M := (RX4, yX4_findPath, cX4_findPath, 3, (Option.none : Option ClassFile.FieldType), [])
theorem uw_168 : Cond.code ⟨"Boreplan$Shop", "findPath", "()V"⟩ prog_6_method_12_code 3 (Option.none : Option ClassFile.FieldType) ∈ bp_UW := bp_uw 168 (by decide +kernel) (by decide +kernel)
theorem cw_X4_findPath : bp_cw mX4_findPath ∈ bp_UW := by rw [bp_cw0 rfl]; exact uw_168
abbrev mX4_lastOfPath : bp_M := (RX4, yX4_lastOfPath, cX4_lastOfPath, 4, (Option.some (FieldType.object "Boreplan$Operation")), [])
theorem uw_176 : Cond.code ⟨"Boreplan$Shop", "lastOfPath", "()LBoreplan$Operation;"⟩ prog_6_method_13_code 4 (Option.some (FieldType.object "Boreplan$Operation")) ∈ bp_UW := bp_uw 176 (by decide +kernel) (by decide +kernel)
theorem cw_X4_lastOfPath : bp_cw mX4_lastOfPath ∈ bp_UW := by rw [bp_cw0 rfl]; exact uw_176
abbrev mX4_aheadOnPath : bp_M := (RX4, yX4_aheadOnPath, cX4_aheadOnPath, 4, (Option.some (FieldType.object "Boreplan$Operation")), [])
theorem uw_260 : Cond.code ⟨"Boreplan$Shop", "aheadOnPath", "(LBoreplan$Operation;)LBoreplan$Operation;"⟩ prog_6_method_14_code 4 (Option.some (FieldType.object "Boreplan$Operation")) ∈ bp_UW := bp_uw 260 (by decide +kernel) (by decide +kernel)
theorem cw_X4_aheadOnPath : bp_cw mX4_aheadOnPath ∈ bp_UW := by rw [bp_cw0 rfl]; exact uw_260
abbrev mX5_init : bp_M := (RX5, yX5_init, cX5_init, 1, (Option.none : Option ClassFile.FieldType), [])
theorem uw_79 : Cond.code ⟨"Boreplan", "<init>", "()V"⟩ prog_1_method_1_code 1 (Option.none : Option ClassFile.FieldType) ∈ bp_UW := bp_uw 79 (by decide +kernel) (by decide +kernel)
theorem cw_X5_init : bp_cw mX5_init ∈ bp_UW := by rw [bp_cw0 rfl]; exact uw_79
abbrev mX5_addMachine : bp_M := (RX5, yX5_addMachine, cX5_addMachine, 1, (Option.some FieldType.int), [])
theorem uw_273 : Cond.code ⟨"Boreplan", "addMachine", "()I"⟩ prog_1_method_2_code 1 (Option.some FieldType.int) ∈ bp_UW := bp_uw 273 (by decide +kernel) (by decide +kernel)
theorem cw_X5_addMachine : bp_cw mX5_addMachine ∈ bp_UW := by rw [bp_cw0 rfl]; exact uw_273
abbrev mX5_setMagazine : bp_M := (RX5, yX5_setMagazine, cX5_setMagazine, 5, (Option.some FieldType.int), [])
theorem uw_389 : Cond.code ⟨"Boreplan", "setMagazine", "(II)I"⟩ prog_1_method_3_code 5 (Option.some FieldType.int) ∈ bp_UW := bp_uw 389 (by decide +kernel) (by decide +kernel)
theorem cw_X5_setMagazine : bp_cw mX5_setMagazine ∈ bp_UW := by rw [bp_cw0 rfl]; exact uw_389
abbrev mX5_breakdown : bp_M := (RX5, yX5_breakdown, cX5_breakdown, 5, (Option.some FieldType.int), [])
theorem uw_434 : Cond.code ⟨"Boreplan", "breakdown", "(III)I"⟩ prog_1_method_4_code 5 (Option.some FieldType.int) ∈ bp_UW := bp_uw 434 (by decide +kernel) (by decide +kernel)
theorem cw_X5_breakdown : bp_cw mX5_breakdown ∈ bp_UW := by rw [bp_cw0 rfl]; exact uw_434
abbrev mX5_repair : bp_M := (RX5, yX5_repair, cX5_repair, 4, (Option.some FieldType.boolean), [])
theorem uw_469 : Cond.code ⟨"Boreplan", "repair", "(I)Z"⟩ prog_1_method_5_code 4 (Option.some FieldType.boolean) ∈ bp_UW := bp_uw 469 (by decide +kernel) (by decide +kernel)
theorem cw_X5_repair : bp_cw mX5_repair ∈ bp_UW := by rw [bp_cw0 rfl]; exact uw_469
abbrev mX5_addJob : bp_M := (RX5, yX5_addJob, cX5_addJob, 2, (Option.some FieldType.int), [])
theorem uw_476 : Cond.code ⟨"Boreplan", "addJob", "(I)I"⟩ prog_1_method_6_code 2 (Option.some FieldType.int) ∈ bp_UW := bp_uw 476 (by decide +kernel) (by decide +kernel)
theorem cw_X5_addJob : bp_cw mX5_addJob ∈ bp_UW := by rw [bp_cw0 rfl]; exact uw_476
abbrev mX5_addOperation : bp_M := (RX5, yX5_addOperation, cX5_addOperation, 8, (Option.some FieldType.int), [])
theorem uw_514 : Cond.code ⟨"Boreplan", "addOperation", "(IIIII)I"⟩ prog_1_method_7_code 8 (Option.some FieldType.int) ∈ bp_UW := bp_uw 514 (by decide +kernel) (by decide +kernel)
theorem cw_X5_addOperation : bp_cw mX5_addOperation ∈ bp_UW := by rw [bp_cw0 rfl]; exact uw_514
abbrev mX5_setSetup : bp_M := (RX5, yX5_setSetup, cX5_setSetup, 5, (Option.some FieldType.int), [])
theorem uw_613 : Cond.code ⟨"Boreplan", "setSetup", "(III)I"⟩ prog_1_method_8_code 5 (Option.some FieldType.int) ∈ bp_UW := bp_uw 613 (by decide +kernel) (by decide +kernel)
theorem cw_X5_setSetup : bp_cw mX5_setSetup ∈ bp_UW := by rw [bp_cw0 rfl]; exact uw_613
abbrev mX5_place : bp_M := (RX5, yX5_place, cX5_place, 5, (Option.some FieldType.int), [])
theorem uw_622 : Cond.code ⟨"Boreplan", "place", "(I)I"⟩ prog_1_method_9_code 5 (Option.some FieldType.int) ∈ bp_UW := bp_uw 622 (by decide +kernel) (by decide +kernel)
theorem cw_X5_place : bp_cw mX5_place ∈ bp_UW := by rw [bp_cw0 rfl]; exact uw_622
abbrev mX5_rush : bp_M := (RX5, yX5_rush, cX5_rush, 4, (Option.some FieldType.int), [])
theorem uw_896 : Cond.code ⟨"Boreplan", "rush", "(I)I"⟩ prog_1_method_10_code 4 (Option.some FieldType.int) ∈ bp_UW := bp_uw 896 (by decide +kernel) (by decide +kernel)
theorem cw_X5_rush : bp_cw mX5_rush ∈ bp_UW := by rw [bp_cw0 rfl]; exact uw_896
abbrev mX5_remove : bp_M := (RX5, yX5_remove, cX5_remove, 4, (Option.some FieldType.int), [])
theorem uw_922 : Cond.code ⟨"Boreplan", "remove", "(I)I"⟩ prog_1_method_11_code 4 (Option.some FieldType.int) ∈ bp_UW := bp_uw 922 (by decide +kernel) (by decide +kernel)
theorem cw_X5_remove : bp_cw mX5_remove ∈ bp_UW := by rw [bp_cw0 rfl]; exact uw_922
abbrev mX5_swap : bp_M := (RX5, yX5_swap, cX5_swap, 4, (Option.some FieldType.int), [])
theorem uw_938 : Cond.code ⟨"Boreplan", "swap", "(II)I"⟩ prog_1_method_12_code 4 (Option.some FieldType.int) ∈ bp_UW := bp_uw 938 (by decide +kernel) (by decide +kernel)
theorem cw_X5_swap : bp_cw mX5_swap ∈ bp_UW := by rw [bp_cw0 rfl]; exact uw_938
abbrev mX5_placed : bp_M := (RX5, yX5_placed, cX5_placed, 2, (Option.some FieldType.int), [])
theorem uw_955 : Cond.code ⟨"Boreplan", "placed", "(I)I"⟩ prog_1_method_13_code 2 (Option.some FieldType.int) ∈ bp_UW := bp_uw 955 (by decide +kernel) (by decide +kernel)
theorem cw_X5_placed : bp_cw mX5_placed ∈ bp_UW := by rw [bp_cw0 rfl]; exact uw_955
abbrev mX5_placedAt : bp_M := (RX5, yX5_placedAt, cX5_placedAt, 4, (Option.some FieldType.int), [])
theorem uw_962 : Cond.code ⟨"Boreplan", "placedAt", "(II)I"⟩ prog_1_method_14_code 4 (Option.some FieldType.int) ∈ bp_UW := bp_uw 962 (by decide +kernel) (by decide +kernel)
theorem cw_X5_placedAt : bp_cw mX5_placedAt ∈ bp_UW := by rw [bp_cw0 rfl]; exact uw_962
abbrev mX5_startOf : bp_M := (RX5, yX5_startOf, cX5_startOf, 3, (Option.some FieldType.int), [])
theorem uw_974 : Cond.code ⟨"Boreplan", "startOf", "(II)I"⟩ prog_1_method_15_code 3 (Option.some FieldType.int) ∈ bp_UW := bp_uw 974 (by decide +kernel) (by decide +kernel)
theorem cw_X5_startOf : bp_cw mX5_startOf ∈ bp_UW := by rw [bp_cw0 rfl]; exact uw_974
abbrev mX5_startByRounds : bp_M := (RX5, yX5_startByRounds, cX5_startByRounds, 4, (Option.some FieldType.int), [])
theorem uw_986 : Cond.code ⟨"Boreplan", "startByRounds", "(II)I"⟩ prog_1_method_16_code 4 (Option.some FieldType.int) ∈ bp_UW := bp_uw 986 (by decide +kernel) (by decide +kernel)
theorem cw_X5_startByRounds : bp_cw mX5_startByRounds ∈ bp_UW := by rw [bp_cw0 rfl]; exact uw_986
abbrev mX5_lateness : bp_M := (RX5, yX5_lateness, cX5_lateness, 5, (Option.some FieldType.int), [])
theorem uw_1005 : Cond.code ⟨"Boreplan", "lateness", "(I)I"⟩ prog_1_method_17_code 5 (Option.some FieldType.int) ∈ bp_UW := bp_uw 1005 (by decide +kernel) (by decide +kernel)
theorem cw_X5_lateness : bp_cw mX5_lateness ∈ bp_UW := by rw [bp_cw0 rfl]; exact uw_1005
abbrev mX5_span : bp_M := (RX5, yX5_span, cX5_span, 1, (Option.some FieldType.int), [])
theorem uw_160 : Cond.code ⟨"Boreplan", "span", "()I"⟩ prog_1_method_18_code 1 (Option.some FieldType.int) ∈ bp_UW := bp_uw 160 (by decide +kernel) (by decide +kernel)
theorem cw_X5_span : bp_cw mX5_span ∈ bp_UW := by rw [bp_cw0 rfl]; exact uw_160
abbrev mX5_slack : bp_M := (RX5, yX5_slack, cX5_slack, 4, (Option.some FieldType.int), [])
theorem uw_1013 : Cond.code ⟨"Boreplan", "slack", "(II)I"⟩ prog_1_method_19_code 4 (Option.some FieldType.int) ∈ bp_UW := bp_uw 1013 (by decide +kernel) (by decide +kernel)
theorem cw_X5_slack : bp_cw mX5_slack ∈ bp_UW := by rw [bp_cw0 rfl]; exact uw_1013
abbrev mX5_criticals : bp_M := (RX5, yX5_criticals, cX5_criticals, 1, (Option.some FieldType.int), [])
theorem uw_164 : Cond.code ⟨"Boreplan", "criticals", "()I"⟩ prog_1_method_20_code 1 (Option.some FieldType.int) ∈ bp_UW := bp_uw 164 (by decide +kernel) (by decide +kernel)
theorem cw_X5_criticals : bp_cw mX5_criticals ∈ bp_UW := by rw [bp_cw0 rfl]; exact uw_164
abbrev mX5_criticalAt : bp_M := (RX5, yX5_criticalAt, cX5_criticalAt, 2, (Option.some FieldType.int), [])
theorem uw_1033 : Cond.code ⟨"Boreplan", "criticalAt", "(I)I"⟩ prog_1_method_21_code 2 (Option.some FieldType.int) ∈ bp_UW := bp_uw 1033 (by decide +kernel) (by decide +kernel)
theorem cw_X5_criticalAt : bp_cw mX5_criticalAt ∈ bp_UW := by rw [bp_cw0 rfl]; exact uw_1033
abbrev mX5_setups : bp_M := (RX5, yX5_setups, cX5_setups, 2, (Option.some FieldType.int), [])
theorem uw_1040 : Cond.code ⟨"Boreplan", "setups", "(I)I"⟩ prog_1_method_22_code 2 (Option.some FieldType.int) ∈ bp_UW := bp_uw 1040 (by decide +kernel) (by decide +kernel)
theorem cw_X5_setups : bp_cw mX5_setups ∈ bp_UW := by rw [bp_cw0 rfl]; exact uw_1040
abbrev mX5_loads : bp_M := (RX5, yX5_loads, cX5_loads, 2, (Option.some FieldType.int), [])
theorem uw_1055 : Cond.code ⟨"Boreplan", "loads", "(I)I"⟩ prog_1_method_23_code 2 (Option.some FieldType.int) ∈ bp_UW := bp_uw 1055 (by decide +kernel) (by decide +kernel)
theorem cw_X5_loads : bp_cw mX5_loads ∈ bp_UW := by rw [bp_cw0 rfl]; exact uw_1055
abbrev mX5_knownMachine : bp_M := (RX5, yX5_knownMachine, cX5_knownMachine, 2, (Option.some (FieldType.object "Boreplan$Machine")), [])
theorem uw_393 : Cond.code ⟨"Boreplan", "knownMachine", "(I)LBoreplan$Machine;"⟩ prog_1_method_24_code 2 (Option.some (FieldType.object "Boreplan$Machine")) ∈ bp_UW := bp_uw 393 (by decide +kernel) (by decide +kernel)
theorem cw_X5_knownMachine : bp_cw mX5_knownMachine ∈ bp_UW := by rw [bp_cw0 rfl]; exact uw_393
abbrev mX5_knownJob : bp_M := (RX5, yX5_knownJob, cX5_knownJob, 2, (Option.some (FieldType.object "Boreplan$Job")), [])
theorem uw_518 : Cond.code ⟨"Boreplan", "knownJob", "(I)LBoreplan$Job;"⟩ prog_1_method_25_code 2 (Option.some (FieldType.object "Boreplan$Job")) ∈ bp_UW := bp_uw 518 (by decide +kernel) (by decide +kernel)
theorem cw_X5_knownJob : bp_cw mX5_knownJob ∈ bp_UW := by rw [bp_cw0 rfl]; exact uw_518
abbrev mX5_placedJob : bp_M := (RX5, yX5_placedJob, cX5_placedJob, 3, (Option.some (FieldType.object "Boreplan$Job")), [])
theorem uw_926 : Cond.code ⟨"Boreplan", "placedJob", "(I)LBoreplan$Job;"⟩ prog_1_method_26_code 3 (Option.some (FieldType.object "Boreplan$Job")) ∈ bp_UW := bp_uw 926 (by decide +kernel) (by decide +kernel)
theorem cw_X5_placedJob : bp_cw mX5_placedJob ∈ bp_UW := by rw [bp_cw0 rfl]; exact uw_926
abbrev mX5_waitingJob : bp_M := (RX5, yX5_waitingJob, cX5_waitingJob, 3, (Option.some (FieldType.object "Boreplan$Job")), [])
theorem uw_626 : Cond.code ⟨"Boreplan", "waitingJob", "(I)LBoreplan$Job;"⟩ prog_1_method_27_code 3 (Option.some (FieldType.object "Boreplan$Job")) ∈ bp_UW := bp_uw 626 (by decide +kernel) (by decide +kernel)
theorem cw_X5_waitingJob : bp_cw mX5_waitingJob ∈ bp_UW := by rw [bp_cw0 rfl]; exact uw_626
abbrev mX5_placedOperation : bp_M := (RX5, yX5_placedOperation, cX5_placedOperation, 4, (Option.some (FieldType.object "Boreplan$Operation")), [])
theorem uw_978 : Cond.code ⟨"Boreplan", "placedOperation", "(II)LBoreplan$Operation;"⟩ prog_1_method_28_code 4 (Option.some (FieldType.object "Boreplan$Operation")) ∈ bp_UW := bp_uw 978 (by decide +kernel) (by decide +kernel)
theorem cw_X5_placedOperation : bp_cw mX5_placedOperation ∈ bp_UW := by rw [bp_cw0 rfl]; exact uw_978
abbrev mX6_init : bp_M := (RX6, yX6_init, cX6_init, 1, (Option.none : Option ClassFile.FieldType), [])
theorem uw_1069 : Cond.code ⟨"BoreplanModel", "<init>", "()V"⟩ prog_8_method_1_code 1 (Option.none : Option ClassFile.FieldType) ∈ bp_UW := bp_uw 1069 (by decide +kernel) (by decide +kernel)
theorem cw_X6_init : bp_cw mX6_init ∈ bp_UW := by rw [bp_cw0 rfl]; exact uw_1069
abbrev mX6_thrown : bp_M := (RX6, yX6_thrown, cX6_thrown, 1, (Option.some FieldType.int), [])
theorem uw_1151 : Cond.code ⟨"BoreplanModel", "thrown", "()I"⟩ prog_8_method_2_code 1 (Option.some FieldType.int) ∈ bp_UW := bp_uw 1151 (by decide +kernel) (by decide +kernel)
theorem cw_X6_thrown : bp_cw mX6_thrown ∈ bp_UW := by rw [bp_cw0 rfl]; exact uw_1151
abbrev mX6_fails : bp_M := (RX6, yX6_fails, cX6_fails, 2, (Option.some FieldType.int), [])
theorem uw_1268 : Cond.code ⟨"BoreplanModel", "fails", "(I)I"⟩ prog_8_method_3_code 2 (Option.some FieldType.int) ∈ bp_UW := bp_uw 1268 (by decide +kernel) (by decide +kernel)
theorem cw_X6_fails : bp_cw mX6_fails ∈ bp_UW := by rw [bp_cw0 rfl]; exact uw_1268
abbrev mX6_in : bp_M := (RX6, yX6_in, cX6_in, 3, (Option.some FieldType.boolean), [])
theorem uw_1166 : Cond.code ⟨"BoreplanModel", "in", "(III)Z"⟩ prog_8_method_4_code 3 (Option.some FieldType.boolean) ∈ bp_UW := bp_uw 1166 (by decide +kernel) (by decide +kernel)
theorem cw_X6_in : bp_cw mX6_in ∈ bp_UW := by rw [bp_cw0 rfl]; exact uw_1166
abbrev mX6_isMachine : bp_M := (RX6, yX6_isMachine, cX6_isMachine, 2, (Option.some FieldType.boolean), [])
theorem uw_1163 : Cond.code ⟨"BoreplanModel", "isMachine", "(I)Z"⟩ prog_8_method_5_code 2 (Option.some FieldType.boolean) ∈ bp_UW := bp_uw 1163 (by decide +kernel) (by decide +kernel)
theorem cw_X6_isMachine : bp_cw mX6_isMachine ∈ bp_UW := by rw [bp_cw0 rfl]; exact uw_1163
abbrev mX6_isJob : bp_M := (RX6, yX6_isJob, cX6_isJob, 2, (Option.some FieldType.boolean), [])
theorem uw_1221 : Cond.code ⟨"BoreplanModel", "isJob", "(I)Z"⟩ prog_8_method_6_code 2 (Option.some FieldType.boolean) ∈ bp_UW := bp_uw 1221 (by decide +kernel) (by decide +kernel)
theorem cw_X6_isJob : bp_cw mX6_isJob ∈ bp_UW := by rw [bp_cw0 rfl]; exact uw_1221
abbrev mX6_setup : bp_M := (RX6, yX6_setup, cX6_setup, 3, (Option.some FieldType.int), [])
theorem uw_1201 : Cond.code ⟨"BoreplanModel", "setup", "(II)I"⟩ prog_8_method_7_code 3 (Option.some FieldType.int) ∈ bp_UW := bp_uw 1201 (by decide +kernel) (by decide +kernel)
theorem cw_X6_setup : bp_cw mX6_setup ∈ bp_UW := by rw [bp_cw0 rfl]; exact uw_1201
abbrev mX6_lays : bp_M := (RX6, yX6_lays, cX6_lays, 4, (Option.none : Option ClassFile.FieldType), [])
theorem uw_1185 : Cond.code ⟨"BoreplanModel", "lays", "()V"⟩ prog_8_method_8_code 4 (Option.none : Option ClassFile.FieldType) ∈ bp_UW := bp_uw 1185 (by decide +kernel) (by decide +kernel)
theorem cw_X6_lays : bp_cw mX6_lays ∈ bp_UW := by rw [bp_cw0 rfl]; exact uw_1185
abbrev mX6_finish : bp_M := (RX6, yX6_finish, cX6_finish, 2, (Option.some FieldType.int), [])
theorem uw_1197 : Cond.code ⟨"BoreplanModel", "finish", "(I)I"⟩ prog_8_method_9_code 2 (Option.some FieldType.int) ∈ bp_UW := bp_uw 1197 (by decide +kernel) (by decide +kernel)
theorem cw_X6_finish : bp_cw mX6_finish ∈ bp_UW := by rw [bp_cw0 rfl]; exact uw_1197
abbrev mX6_beside : bp_M := (RX6, yX6_beside, cX6_beside, 4, (Option.some FieldType.int), [])
theorem uw_1193 : Cond.code ⟨"BoreplanModel", "beside", "(II)I"⟩ prog_8_method_10_code 4 (Option.some FieldType.int) ∈ bp_UW := bp_uw 1193 (by decide +kernel) (by decide +kernel)
theorem cw_X6_beside : bp_cw mX6_beside ∈ bp_UW := by rw [bp_cw0 rfl]; exact uw_1193
abbrev mX6_waits : bp_M := (RX6, yX6_waits, cX6_waits, 6, (Option.some FieldType.int), [])
theorem uw_1189 : Cond.code ⟨"BoreplanModel", "waits", "(I)I"⟩ prog_8_method_11_code 6 (Option.some FieldType.int) ∈ bp_UW := bp_uw 1189 (by decide +kernel) (by decide +kernel)
theorem cw_X6_waits : bp_cw mX6_waits ∈ bp_UW := by rw [bp_cw0 rfl]; exact uw_1189
abbrev mX6_works : bp_M := (RX6, yX6_works, cX6_works, 5, (Option.some FieldType.boolean), [])
theorem uw_1181 : Cond.code ⟨"BoreplanModel", "works", "()Z"⟩ prog_8_method_12_code 5 (Option.some FieldType.boolean) ∈ bp_UW := bp_uw 1181 (by decide +kernel) (by decide +kernel)
theorem cw_X6_works : bp_cw mX6_works ∈ bp_UW := by rw [bp_cw0 rfl]; exact uw_1181
abbrev mX6_spanNow : bp_M := (RX6, yX6_spanNow, cX6_spanNow, 3, (Option.some FieldType.int), [])
theorem uw_1205 : Cond.code ⟨"BoreplanModel", "spanNow", "()I"⟩ prog_8_method_13_code 3 (Option.some FieldType.int) ∈ bp_UW := bp_uw 1205 (by decide +kernel) (by decide +kernel)
theorem cw_X6_spanNow : bp_cw mX6_spanNow ∈ bp_UW := by rw [bp_cw0 rfl]; exact uw_1205
abbrev mX6_spanOf : bp_M := (RX6, yX6_spanOf, cX6_spanOf, 1, (Option.some FieldType.int), [])
theorem uw_1177 : Cond.code ⟨"BoreplanModel", "spanOf", "()I"⟩ prog_8_method_14_code 1 (Option.some FieldType.int) ∈ bp_UW := bp_uw 1177 (by decide +kernel) (by decide +kernel)
theorem cw_X6_spanOf : bp_cw mX6_spanOf ∈ bp_UW := by rw [bp_cw0 rfl]; exact uw_1177
abbrev mX6_lasts : bp_M := (RX6, yX6_lasts, cX6_lasts, 7, (Option.some FieldType.int), [])
theorem uw_1316 : Cond.code ⟨"BoreplanModel", "lasts", "(II)I"⟩ prog_8_method_15_code 7 (Option.some FieldType.int) ∈ bp_UW := bp_uw 1316 (by decide +kernel) (by decide +kernel)
theorem cw_X6_lasts : bp_cw mX6_lasts ∈ bp_UW := by rw [bp_cw0 rfl]; exact uw_1316
abbrev mX6_worksBack : bp_M := (RX6, yX6_worksBack, cX6_worksBack, 4, (Option.none : Option ClassFile.FieldType), [])
theorem uw_1311 : Cond.code ⟨"BoreplanModel", "worksBack", "()V"⟩ prog_8_method_16_code 4 (Option.none : Option ClassFile.FieldType) ∈ bp_UW := bp_uw 1311 (by decide +kernel) (by decide +kernel)
theorem cw_X6_worksBack : bp_cw mX6_worksBack ∈ bp_UW := by rw [bp_cw0 rfl]; exact uw_1311
abbrev mX6_addMachine : bp_M := (RX6, yX6_addMachine, cX6_addMachine, 1, (Option.some FieldType.int), [])
theorem uw_1155 : Cond.code ⟨"BoreplanModel", "addMachine", "()I"⟩ prog_8_method_17_code 1 (Option.some FieldType.int) ∈ bp_UW := bp_uw 1155 (by decide +kernel) (by decide +kernel)
theorem cw_X6_addMachine : bp_cw mX6_addMachine ∈ bp_UW := by rw [bp_cw0 rfl]; exact uw_1155
abbrev mX6_count : bp_M := (RX6, yX6_count, cX6_count, 3, (Option.some FieldType.int), [])
theorem uw_1169 : Cond.code ⟨"BoreplanModel", "count", "(I)I"⟩ prog_8_method_18_code 3 (Option.some FieldType.int) ∈ bp_UW := bp_uw 1169 (by decide +kernel) (by decide +kernel)
theorem cw_X6_count : bp_cw mX6_count ∈ bp_UW := by rw [bp_cw0 rfl]; exact uw_1169
abbrev mX6_setMagazine : bp_M := (RX6, yX6_setMagazine, cX6_setMagazine, 5, (Option.some FieldType.int), [])
theorem uw_1159 : Cond.code ⟨"BoreplanModel", "setMagazine", "(II)I"⟩ prog_8_method_19_code 5 (Option.some FieldType.int) ∈ bp_UW := bp_uw 1159 (by decide +kernel) (by decide +kernel)
theorem cw_X6_setMagazine : bp_cw mX6_setMagazine ∈ bp_UW := by rw [bp_cw0 rfl]; exact uw_1159
abbrev mX6_breakdown : bp_M := (RX6, yX6_breakdown, cX6_breakdown, 4, (Option.some FieldType.int), [])
theorem uw_1173 : Cond.code ⟨"BoreplanModel", "breakdown", "(III)I"⟩ prog_8_method_20_code 4 (Option.some FieldType.int) ∈ bp_UW := bp_uw 1173 (by decide +kernel) (by decide +kernel)
theorem cw_X6_breakdown : bp_cw mX6_breakdown ∈ bp_UW := by rw [bp_cw0 rfl]; exact uw_1173
abbrev mX6_repair : bp_M := (RX6, yX6_repair, cX6_repair, 3, (Option.some FieldType.boolean), [])
theorem uw_1209 : Cond.code ⟨"BoreplanModel", "repair", "(I)Z"⟩ prog_8_method_21_code 3 (Option.some FieldType.boolean) ∈ bp_UW := bp_uw 1209 (by decide +kernel) (by decide +kernel)
theorem cw_X6_repair : bp_cw mX6_repair ∈ bp_UW := by rw [bp_cw0 rfl]; exact uw_1209
abbrev mX6_addJob : bp_M := (RX6, yX6_addJob, cX6_addJob, 2, (Option.some FieldType.int), [])
theorem uw_1213 : Cond.code ⟨"BoreplanModel", "addJob", "(I)I"⟩ prog_8_method_22_code 2 (Option.some FieldType.int) ∈ bp_UW := bp_uw 1213 (by decide +kernel) (by decide +kernel)
theorem cw_X6_addJob : bp_cw mX6_addJob ∈ bp_UW := by rw [bp_cw0 rfl]; exact uw_1213
abbrev mX6_addOperation : bp_M := (RX6, yX6_addOperation, cX6_addOperation, 8, (Option.some FieldType.int), [])
theorem uw_1217 : Cond.code ⟨"BoreplanModel", "addOperation", "(IIIII)I"⟩ prog_8_method_23_code 8 (Option.some FieldType.int) ∈ bp_UW := bp_uw 1217 (by decide +kernel) (by decide +kernel)
theorem cw_X6_addOperation : bp_cw mX6_addOperation ∈ bp_UW := by rw [bp_cw0 rfl]; exact uw_1217
abbrev mX6_isFamily : bp_M := (RX6, yX6_isFamily, cX6_isFamily, 1, (Option.some FieldType.boolean), [])
theorem uw_1228 : Cond.code ⟨"BoreplanModel", "isFamily", "(I)Z"⟩ prog_8_method_24_code 1 (Option.some FieldType.boolean) ∈ bp_UW := bp_uw 1228 (by decide +kernel) (by decide +kernel)
theorem cw_X6_isFamily : bp_cw mX6_isFamily ∈ bp_UW := by rw [bp_cw0 rfl]; exact uw_1228
abbrev mX6_setSetup : bp_M := (RX6, yX6_setSetup, cX6_setSetup, 5, (Option.some FieldType.int), [])
theorem uw_1225 : Cond.code ⟨"BoreplanModel", "setSetup", "(III)I"⟩ prog_8_method_25_code 5 (Option.some FieldType.int) ∈ bp_UW := bp_uw 1225 (by decide +kernel) (by decide +kernel)
theorem cw_X6_setSetup : bp_cw mX6_setSetup ∈ bp_UW := by rw [bp_cw0 rfl]; exact uw_1225
abbrev mX6_puts : bp_M := (RX6, yX6_puts, cX6_puts, 5, (Option.none : Option ClassFile.FieldType), [])
theorem uw_1240 : Cond.code ⟨"BoreplanModel", "puts", "(II)V"⟩ prog_8_method_26_code 5 (Option.none : Option ClassFile.FieldType) ∈ bp_UW := bp_uw 1240 (by decide +kernel) (by decide +kernel)
theorem cw_X6_puts : bp_cw mX6_puts ∈ bp_UW := by rw [bp_cw0 rfl]; exact uw_1240
abbrev mX6_takes : bp_M := (RX6, yX6_takes, cX6_takes, 5, (Option.none : Option ClassFile.FieldType), [])
theorem uw_1252 : Cond.code ⟨"BoreplanModel", "takes", "(I)V"⟩ prog_8_method_27_code 5 (Option.none : Option ClassFile.FieldType) ∈ bp_UW := bp_uw 1252 (by decide +kernel) (by decide +kernel)
theorem cw_X6_takes : bp_cw mX6_takes ∈ bp_UW := by rw [bp_cw0 rfl]; exact uw_1252
abbrev mX6_bars : bp_M := (RX6, yX6_bars, cX6_bars, 2, (Option.some FieldType.int), [])
theorem uw_1236 : Cond.code ⟨"BoreplanModel", "bars", "(I)I"⟩ prog_8_method_28_code 2 (Option.some FieldType.int) ∈ bp_UW := bp_uw 1236 (by decide +kernel) (by decide +kernel)
theorem cw_X6_bars : bp_cw mX6_bars ∈ bp_UW := by rw [bp_cw0 rfl]; exact uw_1236
abbrev mX6_place : bp_M := (RX6, yX6_place, cX6_place, 4, (Option.some FieldType.int), [])
theorem uw_1232 : Cond.code ⟨"BoreplanModel", "place", "(I)I"⟩ prog_8_method_29_code 4 (Option.some FieldType.int) ∈ bp_UW := bp_uw 1232 (by decide +kernel) (by decide +kernel)
theorem cw_X6_place : bp_cw mX6_place ∈ bp_UW := by rw [bp_cw0 rfl]; exact uw_1232
abbrev mX6_rushes : bp_M := (RX6, yX6_rushes, cX6_rushes, 10, (Option.none : Option ClassFile.FieldType), [])
theorem uw_1248 : Cond.code ⟨"BoreplanModel", "rushes", "(I)V"⟩ prog_8_method_30_code 10 (Option.none : Option ClassFile.FieldType) ∈ bp_UW := bp_uw 1248 (by decide +kernel) (by decide +kernel)
theorem cw_X6_rushes : bp_cw mX6_rushes ∈ bp_UW := by rw [bp_cw0 rfl]; exact uw_1248
abbrev mX6_rush : bp_M := (RX6, yX6_rush, cX6_rush, 3, (Option.some FieldType.int), [])
theorem uw_1244 : Cond.code ⟨"BoreplanModel", "rush", "(I)I"⟩ prog_8_method_31_code 3 (Option.some FieldType.int) ∈ bp_UW := bp_uw 1244 (by decide +kernel) (by decide +kernel)
theorem cw_X6_rush : bp_cw mX6_rush ∈ bp_UW := by rw [bp_cw0 rfl]; exact uw_1244
abbrev mX6_remove : bp_M := (RX6, yX6_remove, cX6_remove, 3, (Option.some FieldType.int), [])
theorem uw_1256 : Cond.code ⟨"BoreplanModel", "remove", "(I)I"⟩ prog_8_method_32_code 3 (Option.some FieldType.int) ∈ bp_UW := bp_uw 1256 (by decide +kernel) (by decide +kernel)
theorem cw_X6_remove : bp_cw mX6_remove ∈ bp_UW := by rw [bp_cw0 rfl]; exact uw_1256
abbrev mX6_exchanges : bp_M := (RX6, yX6_exchanges, cX6_exchanges, 5, (Option.none : Option ClassFile.FieldType), [])
theorem uw_1264 : Cond.code ⟨"BoreplanModel", "exchanges", "(II)V"⟩ prog_8_method_33_code 5 (Option.none : Option ClassFile.FieldType) ∈ bp_UW := bp_uw 1264 (by decide +kernel) (by decide +kernel)
theorem cw_X6_exchanges : bp_cw mX6_exchanges ∈ bp_UW := by rw [bp_cw0 rfl]; exact uw_1264
abbrev mX6_swap : bp_M := (RX6, yX6_swap, cX6_swap, 3, (Option.some FieldType.int), [])
theorem uw_1260 : Cond.code ⟨"BoreplanModel", "swap", "(II)I"⟩ prog_8_method_34_code 3 (Option.some FieldType.int) ∈ bp_UW := bp_uw 1260 (by decide +kernel) (by decide +kernel)
theorem cw_X6_swap : bp_cw mX6_swap ∈ bp_UW := by rw [bp_cw0 rfl]; exact uw_1260
abbrev mX6_placed : bp_M := (RX6, yX6_placed, cX6_placed, 2, (Option.some FieldType.int), [])
theorem uw_1272 : Cond.code ⟨"BoreplanModel", "placed", "(I)I"⟩ prog_8_method_35_code 2 (Option.some FieldType.int) ∈ bp_UW := bp_uw 1272 (by decide +kernel) (by decide +kernel)
theorem cw_X6_placed : bp_cw mX6_placed ∈ bp_UW := by rw [bp_cw0 rfl]; exact uw_1272
abbrev mX6_code : bp_M := (RX6, yX6_code, cX6_code, 1, (Option.some FieldType.int), [])
theorem uw_1279 : Cond.code ⟨"BoreplanModel", "code", "(I)I"⟩ prog_8_method_36_code 1 (Option.some FieldType.int) ∈ bp_UW := bp_uw 1279 (by decide +kernel) (by decide +kernel)
theorem cw_X6_code : bp_cw mX6_code ∈ bp_UW := by rw [bp_cw0 rfl]; exact uw_1279
abbrev mX6_placedAt : bp_M := (RX6, yX6_placedAt, cX6_placedAt, 3, (Option.some FieldType.int), [])
theorem uw_1276 : Cond.code ⟨"BoreplanModel", "placedAt", "(II)I"⟩ prog_8_method_37_code 3 (Option.some FieldType.int) ∈ bp_UW := bp_uw 1276 (by decide +kernel) (by decide +kernel)
theorem cw_X6_placedAt : bp_cw mX6_placedAt ∈ bp_UW := by rw [bp_cw0 rfl]; exact uw_1276
abbrev mX6_isAsked : bp_M := (RX6, yX6_isAsked, cX6_isAsked, 3, (Option.some FieldType.boolean), [])
theorem uw_1291 : Cond.code ⟨"BoreplanModel", "isAsked", "(II)Z"⟩ prog_8_method_38_code 3 (Option.some FieldType.boolean) ∈ bp_UW := bp_uw 1291 (by decide +kernel) (by decide +kernel)
theorem cw_X6_isAsked : bp_cw mX6_isAsked ∈ bp_UW := by rw [bp_cw0 rfl]; exact uw_1291
abbrev mX6_startNow : bp_M := (RX6, yX6_startNow, cX6_startNow, 4, (Option.some FieldType.int), [])
theorem uw_1287 : Cond.code ⟨"BoreplanModel", "startNow", "(II)I"⟩ prog_8_method_39_code 4 (Option.some FieldType.int) ∈ bp_UW := bp_uw 1287 (by decide +kernel) (by decide +kernel)
theorem cw_X6_startNow : bp_cw mX6_startNow ∈ bp_UW := by rw [bp_cw0 rfl]; exact uw_1287
abbrev mX6_startOf : bp_M := (RX6, yX6_startOf, cX6_startOf, 3, (Option.some FieldType.int), [])
theorem uw_1283 : Cond.code ⟨"BoreplanModel", "startOf", "(II)I"⟩ prog_8_method_40_code 3 (Option.some FieldType.int) ∈ bp_UW := bp_uw 1283 (by decide +kernel) (by decide +kernel)
theorem cw_X6_startOf : bp_cw mX6_startOf ∈ bp_UW := by rw [bp_cw0 rfl]; exact uw_1283
abbrev mX6_startByRounds : bp_M := (RX6, yX6_startByRounds, cX6_startByRounds, 3, (Option.some FieldType.int), [])
theorem uw_1295 : Cond.code ⟨"BoreplanModel", "startByRounds", "(II)I"⟩ prog_8_method_41_code 3 (Option.some FieldType.int) ∈ bp_UW := bp_uw 1295 (by decide +kernel) (by decide +kernel)
theorem cw_X6_startByRounds : bp_cw mX6_startByRounds ∈ bp_UW := by rw [bp_cw0 rfl]; exact uw_1295
abbrev mX6_lateness : bp_M := (RX6, yX6_lateness, cX6_lateness, 3, (Option.some FieldType.int), [])
theorem uw_1299 : Cond.code ⟨"BoreplanModel", "lateness", "(I)I"⟩ prog_8_method_42_code 3 (Option.some FieldType.int) ∈ bp_UW := bp_uw 1299 (by decide +kernel) (by decide +kernel)
theorem cw_X6_lateness : bp_cw mX6_lateness ∈ bp_UW := by rw [bp_cw0 rfl]; exact uw_1299
abbrev mX6_span : bp_M := (RX6, yX6_span, cX6_span, 1, (Option.some FieldType.int), [])
theorem uw_1303 : Cond.code ⟨"BoreplanModel", "span", "()I"⟩ prog_8_method_43_code 1 (Option.some FieldType.int) ∈ bp_UW := bp_uw 1303 (by decide +kernel) (by decide +kernel)
theorem cw_X6_span : bp_cw mX6_span ∈ bp_UW := by rw [bp_cw0 rfl]; exact uw_1303
abbrev mX6_slack : bp_M := (RX6, yX6_slack, cX6_slack, 3, (Option.some FieldType.int), [])
theorem uw_1307 : Cond.code ⟨"BoreplanModel", "slack", "(II)I"⟩ prog_8_method_44_code 3 (Option.some FieldType.int) ∈ bp_UW := bp_uw 1307 (by decide +kernel) (by decide +kernel)
theorem cw_X6_slack : bp_cw mX6_slack ∈ bp_UW := by rw [bp_cw0 rfl]; exact uw_1307
abbrev mX6_walks : bp_M := (RX6, yX6_walks, cX6_walks, 7, (Option.none : Option ClassFile.FieldType), [])
theorem uw_1324 : Cond.code ⟨"BoreplanModel", "walks", "()V"⟩ prog_8_method_45_code 7 (Option.none : Option ClassFile.FieldType) ∈ bp_UW := bp_uw 1324 (by decide +kernel) (by decide +kernel)
theorem cw_X6_walks : bp_cw mX6_walks ∈ bp_UW := by rw [bp_cw0 rfl]; exact uw_1324
abbrev mX6_criticals : bp_M := (RX6, yX6_criticals, cX6_criticals, 1, (Option.some FieldType.int), [])
theorem uw_1320 : Cond.code ⟨"BoreplanModel", "criticals", "()I"⟩ prog_8_method_46_code 1 (Option.some FieldType.int) ∈ bp_UW := bp_uw 1320 (by decide +kernel) (by decide +kernel)
theorem cw_X6_criticals : bp_cw mX6_criticals ∈ bp_UW := by rw [bp_cw0 rfl]; exact uw_1320
abbrev mX6_criticalAt : bp_M := (RX6, yX6_criticalAt, cX6_criticalAt, 2, (Option.some FieldType.int), [])
theorem uw_1328 : Cond.code ⟨"BoreplanModel", "criticalAt", "(I)I"⟩ prog_8_method_47_code 2 (Option.some FieldType.int) ∈ bp_UW := bp_uw 1328 (by decide +kernel) (by decide +kernel)
theorem cw_X6_criticalAt : bp_cw mX6_criticalAt ∈ bp_UW := by rw [bp_cw0 rfl]; exact uw_1328
abbrev mX6_setups : bp_M := (RX6, yX6_setups, cX6_setups, 6, (Option.some FieldType.int), [])
theorem uw_1332 : Cond.code ⟨"BoreplanModel", "setups", "(I)I"⟩ prog_8_method_48_code 6 (Option.some FieldType.int) ∈ bp_UW := bp_uw 1332 (by decide +kernel) (by decide +kernel)
theorem cw_X6_setups : bp_cw mX6_setups ∈ bp_UW := by rw [bp_cw0 rfl]; exact uw_1332
abbrev mX6_needs : bp_M := (RX6, yX6_needs, cX6_needs, 8, (Option.none : Option ClassFile.FieldType), [])
theorem uw_1340 : Cond.code ⟨"BoreplanModel", "needs", "(II)V"⟩ prog_8_method_49_code 8 (Option.none : Option ClassFile.FieldType) ∈ bp_UW := bp_uw 1340 (by decide +kernel) (by decide +kernel)
theorem cw_X6_needs : bp_cw mX6_needs ∈ bp_UW := by rw [bp_cw0 rfl]; exact uw_1340
abbrev mX6_loads : bp_M := (RX6, yX6_loads, cX6_loads, 4, (Option.some FieldType.int), [])
theorem uw_1336 : Cond.code ⟨"BoreplanModel", "loads", "(I)I"⟩ prog_8_method_50_code 4 (Option.some FieldType.int) ∈ bp_UW := bp_uw 1336 (by decide +kernel) (by decide +kernel)
theorem cw_X6_loads : bp_cw mX6_loads ∈ bp_UW := by rw [bp_cw0 rfl]; exact uw_1336
abbrev mL_addMachine : bp_M := (RL, yL_addMachine, cL_addMachine, 3, (Option.some FieldType.int), [(0, 8, 11, 13)])
theorem uw_268 : Cond.codeWith ⟨"BoreplanLaw", "addMachine", "(LBoreplan;[J)I"⟩ method_3_code 3 (Option.some FieldType.int) [(0, 8, 11, 13)] ∈ bp_UW := bp_uw 268 (by decide +kernel) (by decide +kernel)
theorem cw_L_addMachine : bp_cw mL_addMachine ∈ bp_UW := by rw [bp_cw1 (by simp)]; exact uw_268
abbrev mL_setMagazine : bp_M := (RL, yL_setMagazine, cL_setMagazine, 5, (Option.some FieldType.int), [(0, 10, 13, 19), (0, 10, 17, 21), (0, 10, 21, 13)])
theorem uw_383 : Cond.codeWith ⟨"BoreplanLaw", "setMagazine", "(LBoreplan;II[J)I"⟩ method_4_code 5 (Option.some FieldType.int) [(0, 10, 13, 19), (0, 10, 17, 21), (0, 10, 21, 13)] ∈ bp_UW := bp_uw 383 (by decide +kernel) (by decide +kernel)
theorem cw_L_setMagazine : bp_cw mL_setMagazine ∈ bp_UW := by rw [bp_cw1 (by simp)]; exact uw_383
abbrev mL_breakdown : bp_M := (RL, yL_breakdown, cL_breakdown, 6, (Option.some FieldType.int), [(0, 12, 15, 19), (0, 12, 19, 21)])
theorem uw_430 : Cond.codeWith ⟨"BoreplanLaw", "breakdown", "(LBoreplan;III[J)I"⟩ method_5_code 6 (Option.some FieldType.int) [(0, 12, 15, 19), (0, 12, 19, 21)] ∈ bp_UW := bp_uw 430 (by decide +kernel) (by decide +kernel)
theorem cw_L_breakdown : bp_cw mL_breakdown ∈ bp_UW := by rw [bp_cw1 (by simp)]; exact uw_430
abbrev mL_repair : bp_M := (RL, yL_repair, cL_repair, 4, (Option.some FieldType.int), [(0, 16, 19, 19)])
theorem uw_465 : Cond.codeWith ⟨"BoreplanLaw", "repair", "(LBoreplan;I[J)I"⟩ method_6_code 4 (Option.some FieldType.int) [(0, 16, 19, 19)] ∈ bp_UW := bp_uw 465 (by decide +kernel) (by decide +kernel)
theorem cw_L_repair : bp_cw mL_repair ∈ bp_UW := by rw [bp_cw1 (by simp)]; exact uw_465
abbrev mL_addJob : bp_M := (RL, yL_addJob, cL_addJob, 4, (Option.some FieldType.int), [(0, 9, 12, 21), (0, 9, 15, 13)])
theorem uw_472 : Cond.codeWith ⟨"BoreplanLaw", "addJob", "(LBoreplan;I[J)I"⟩ method_7_code 4 (Option.some FieldType.int) [(0, 9, 12, 21), (0, 9, 15, 13)] ∈ bp_UW := bp_uw 472 (by decide +kernel) (by decide +kernel)
theorem cw_L_addJob : bp_cw mL_addJob ∈ bp_UW := by rw [bp_cw1 (by simp)]; exact uw_472
abbrev mL_addOperation : bp_M := (RL, yL_addOperation, cL_addOperation, 8, (Option.some FieldType.int), [(0, 16, 19, 19), (0, 16, 23, 21), (0, 16, 27, 13)])
theorem uw_510 : Cond.codeWith ⟨"BoreplanLaw", "addOperation", "(LBoreplan;IIIII[J)I"⟩ method_8_code 8 (Option.some FieldType.int) [(0, 16, 19, 19), (0, 16, 23, 21), (0, 16, 27, 13)] ∈ bp_UW := bp_uw 510 (by decide +kernel) (by decide +kernel)
theorem cw_L_addOperation : bp_cw mL_addOperation ∈ bp_UW := by rw [bp_cw1 (by simp)]; exact uw_510
abbrev mL_setSetup : bp_M := (RL, yL_setSetup, cL_setSetup, 6, (Option.some FieldType.int), [(0, 12, 15, 19), (0, 12, 19, 21)])
theorem uw_609 : Cond.codeWith ⟨"BoreplanLaw", "setSetup", "(LBoreplan;III[J)I"⟩ method_9_code 6 (Option.some FieldType.int) [(0, 12, 15, 19), (0, 12, 19, 21)] ∈ bp_UW := bp_uw 609 (by decide +kernel) (by decide +kernel)
theorem cw_L_setSetup : bp_cw mL_setSetup ∈ bp_UW := by rw [bp_cw1 (by simp)]; exact uw_609
abbrev mL_place : bp_M := (RL, yL_place, cL_place, 4, (Option.some FieldType.int), [(0, 9, 12, 19), (0, 9, 15, 13)])
theorem uw_618 : Cond.codeWith ⟨"BoreplanLaw", "place", "(LBoreplan;I[J)I"⟩ method_10_code 4 (Option.some FieldType.int) [(0, 9, 12, 19), (0, 9, 15, 13)] ∈ bp_UW := bp_uw 618 (by decide +kernel) (by decide +kernel)
theorem cw_L_place : bp_cw mL_place ∈ bp_UW := by rw [bp_cw1 (by simp)]; exact uw_618
abbrev mL_rush : bp_M := (RL, yL_rush, cL_rush, 4, (Option.some FieldType.int), [(0, 9, 12, 19), (0, 9, 15, 13)])
theorem uw_892 : Cond.codeWith ⟨"BoreplanLaw", "rush", "(LBoreplan;I[J)I"⟩ method_11_code 4 (Option.some FieldType.int) [(0, 9, 12, 19), (0, 9, 15, 13)] ∈ bp_UW := bp_uw 892 (by decide +kernel) (by decide +kernel)
theorem cw_L_rush : bp_cw mL_rush ∈ bp_UW := by rw [bp_cw1 (by simp)]; exact uw_892
abbrev mL_remove : bp_M := (RL, yL_remove, cL_remove, 4, (Option.some FieldType.int), [(0, 9, 12, 19), (0, 9, 15, 13)])
theorem uw_918 : Cond.codeWith ⟨"BoreplanLaw", "remove", "(LBoreplan;I[J)I"⟩ method_12_code 4 (Option.some FieldType.int) [(0, 9, 12, 19), (0, 9, 15, 13)] ∈ bp_UW := bp_uw 918 (by decide +kernel) (by decide +kernel)
theorem cw_L_remove : bp_cw mL_remove ∈ bp_UW := by rw [bp_cw1 (by simp)]; exact uw_918
abbrev mL_swap : bp_M := (RL, yL_swap, cL_swap, 5, (Option.some FieldType.int), [(0, 10, 13, 19), (0, 10, 17, 13)])
theorem uw_934 : Cond.codeWith ⟨"BoreplanLaw", "swap", "(LBoreplan;II[J)I"⟩ method_13_code 5 (Option.some FieldType.int) [(0, 10, 13, 19), (0, 10, 17, 13)] ∈ bp_UW := bp_uw 934 (by decide +kernel) (by decide +kernel)
theorem cw_L_swap : bp_cw mL_swap ∈ bp_UW := by rw [bp_cw1 (by simp)]; exact uw_934
abbrev mL_placed : bp_M := (RL, yL_placed, cL_placed, 4, (Option.some FieldType.int), [(0, 9, 12, 19)])
theorem uw_951 : Cond.codeWith ⟨"BoreplanLaw", "placed", "(LBoreplan;I[J)I"⟩ method_14_code 4 (Option.some FieldType.int) [(0, 9, 12, 19)] ∈ bp_UW := bp_uw 951 (by decide +kernel) (by decide +kernel)
theorem cw_L_placed : bp_cw mL_placed ∈ bp_UW := by rw [bp_cw1 (by simp)]; exact uw_951
abbrev mL_placedAt : bp_M := (RL, yL_placedAt, cL_placedAt, 5, (Option.some FieldType.int), [(0, 10, 13, 19)])
theorem uw_958 : Cond.codeWith ⟨"BoreplanLaw", "placedAt", "(LBoreplan;II[J)I"⟩ method_15_code 5 (Option.some FieldType.int) [(0, 10, 13, 19)] ∈ bp_UW := bp_uw 958 (by decide +kernel) (by decide +kernel)
theorem cw_L_placedAt : bp_cw mL_placedAt ∈ bp_UW := by rw [bp_cw1 (by simp)]; exact uw_958
abbrev mL_startOf : bp_M := (RL, yL_startOf, cL_startOf, 5, (Option.some FieldType.int), [(0, 10, 13, 19), (0, 10, 17, 13)])
theorem uw_970 : Cond.codeWith ⟨"BoreplanLaw", "startOf", "(LBoreplan;II[J)I"⟩ method_16_code 5 (Option.some FieldType.int) [(0, 10, 13, 19), (0, 10, 17, 13)] ∈ bp_UW := bp_uw 970 (by decide +kernel) (by decide +kernel)
theorem cw_L_startOf : bp_cw mL_startOf ∈ bp_UW := by rw [bp_cw1 (by simp)]; exact uw_970
abbrev mL_startByRounds : bp_M := (RL, yL_startByRounds, cL_startByRounds, 5, (Option.some FieldType.int), [(0, 10, 13, 19), (0, 10, 17, 13)])
theorem uw_982 : Cond.codeWith ⟨"BoreplanLaw", "startByRounds", "(LBoreplan;II[J)I"⟩ method_17_code 5 (Option.some FieldType.int) [(0, 10, 13, 19), (0, 10, 17, 13)] ∈ bp_UW := bp_uw 982 (by decide +kernel) (by decide +kernel)
theorem cw_L_startByRounds : bp_cw mL_startByRounds ∈ bp_UW := by rw [bp_cw1 (by simp)]; exact uw_982
abbrev mL_lateness : bp_M := (RL, yL_lateness, cL_lateness, 4, (Option.some FieldType.int), [(0, 9, 12, 19), (0, 9, 15, 13)])
theorem uw_1001 : Cond.codeWith ⟨"BoreplanLaw", "lateness", "(LBoreplan;I[J)I"⟩ method_18_code 4 (Option.some FieldType.int) [(0, 9, 12, 19), (0, 9, 15, 13)] ∈ bp_UW := bp_uw 1001 (by decide +kernel) (by decide +kernel)
theorem cw_L_lateness : bp_cw mL_lateness ∈ bp_UW := by rw [bp_cw1 (by simp)]; exact uw_1001
abbrev mL_slack : bp_M := (RL, yL_slack, cL_slack, 5, (Option.some FieldType.int), [(0, 10, 13, 19), (0, 10, 17, 13)])
theorem uw_1009 : Cond.codeWith ⟨"BoreplanLaw", "slack", "(LBoreplan;II[J)I"⟩ method_19_code 5 (Option.some FieldType.int) [(0, 10, 13, 19), (0, 10, 17, 13)] ∈ bp_UW := bp_uw 1009 (by decide +kernel) (by decide +kernel)
theorem cw_L_slack : bp_cw mL_slack ∈ bp_UW := by rw [bp_cw1 (by simp)]; exact uw_1009
abbrev mL_criticalAt : bp_M := (RL, yL_criticalAt, cL_criticalAt, 4, (Option.some FieldType.int), [(0, 9, 12, 19)])
theorem uw_1029 : Cond.codeWith ⟨"BoreplanLaw", "criticalAt", "(LBoreplan;I[J)I"⟩ method_20_code 4 (Option.some FieldType.int) [(0, 9, 12, 19)] ∈ bp_UW := bp_uw 1029 (by decide +kernel) (by decide +kernel)
theorem cw_L_criticalAt : bp_cw mL_criticalAt ∈ bp_UW := by rw [bp_cw1 (by simp)]; exact uw_1029
abbrev mL_setups : bp_M := (RL, yL_setups, cL_setups, 4, (Option.some FieldType.int), [(0, 9, 12, 19)])
theorem uw_1036 : Cond.codeWith ⟨"BoreplanLaw", "setups", "(LBoreplan;I[J)I"⟩ method_21_code 4 (Option.some FieldType.int) [(0, 9, 12, 19)] ∈ bp_UW := bp_uw 1036 (by decide +kernel) (by decide +kernel)
theorem cw_L_setups : bp_cw mL_setups ∈ bp_UW := by rw [bp_cw1 (by simp)]; exact uw_1036
abbrev mL_loads : bp_M := (RL, yL_loads, cL_loads, 4, (Option.some FieldType.int), [(0, 9, 12, 19)])
theorem uw_1051 : Cond.codeWith ⟨"BoreplanLaw", "loads", "(LBoreplan;I[J)I"⟩ method_22_code 4 (Option.some FieldType.int) [(0, 9, 12, 19)] ∈ bp_UW := bp_uw 1051 (by decide +kernel) (by decide +kernel)
theorem cw_L_loads : bp_cw mL_loads ∈ bp_UW := by rw [bp_cw1 (by simp)]; exact uw_1051
abbrev mL_law : bp_M := (RL, yL_law, cL_law, 7, some .boolean, [])
abbrev mJx4a65c_init_da8c8 : bp_M := (RJx4a65c, yJx4a65c_init_da8c8, cJx4a65c_init_da8c8, 1, (Option.none : Option ClassFile.FieldType), [])
theorem uw_93 : Cond.code ⟨"java/util/ArrayList", "<init>", "()V"⟩ prog_34_method_2_code 1 (Option.none : Option ClassFile.FieldType) ∈ bp_UW := bp_uw 93 (by decide +kernel) (by decide +kernel)
theorem cw_Jx4a65c_init_da8c8 : bp_cw mJx4a65c_init_da8c8 ∈ bp_UW := by rw [bp_cw0 rfl]; exact uw_93
abbrev mJx4a65c_grow_92f84 : bp_M := (RJx4a65c, yJx4a65c_grow_92f84, cJx4a65c_grow_92f84, 4, (Option.some (FieldType.array (FieldType.object "java/lang/Object"))), [])
theorem uw_212 : Cond.code ⟨"java/util/ArrayList", "grow", "(I)[Ljava/lang/Object;"⟩ prog_34_method_6_code 4 (Option.some (FieldType.array (FieldType.object "java/lang/Object"))) ∈ bp_UW := bp_uw 212 (by decide +kernel) (by decide +kernel)
theorem cw_Jx4a65c_grow_92f84 : bp_cw mJx4a65c_grow_92f84 ∈ bp_UW := by rw [bp_cw0 rfl]; exact uw_212
abbrev mJx4a65c_grow_d5877 : bp_M := (RJx4a65c, yJx4a65c_grow_d5877, cJx4a65c_grow_d5877, 1, (Option.some (FieldType.array (FieldType.object "java/lang/Object"))), [])
theorem uw_208 : Cond.code ⟨"java/util/ArrayList", "grow", "()[Ljava/lang/Object;"⟩ prog_34_method_7_code 1 (Option.some (FieldType.array (FieldType.object "java/lang/Object"))) ∈ bp_UW := bp_uw 208 (by decide +kernel) (by decide +kernel)
theorem cw_Jx4a65c_grow_d5877 : bp_cw mJx4a65c_grow_d5877 ∈ bp_UW := by rw [bp_cw0 rfl]; exact uw_208
abbrev mJx4a65c_size_8abf5 : bp_M := (RJx4a65c, yJx4a65c_size_8abf5, cJx4a65c_size_8abf5, 1, (Option.some FieldType.int), [])
theorem uw_180 : Cond.code ⟨"java/util/ArrayList", "size", "()I"⟩ prog_34_method_8_code 1 (Option.some FieldType.int) ∈ bp_UW := bp_uw 180 (by decide +kernel) (by decide +kernel)
theorem cw_Jx4a65c_size_8abf5 : bp_cw mJx4a65c_size_8abf5 ∈ bp_UW := by rw [bp_cw0 rfl]; exact uw_180
abbrev mJx4a65c_isEmpty_aae02 : bp_M := (RJx4a65c, yJx4a65c_isEmpty_aae02, cJx4a65c_isEmpty_aae02, 1, (Option.some FieldType.boolean), [])
theorem uw_630 : Cond.code ⟨"java/util/ArrayList", "isEmpty", "()Z"⟩ prog_34_method_9_code 1 (Option.some FieldType.boolean) ∈ bp_UW := bp_uw 630 (by decide +kernel) (by decide +kernel)
theorem cw_Jx4a65c_isEmpty_aae02 : bp_cw mJx4a65c_isEmpty_aae02 ∈ bp_UW := by rw [bp_cw0 rfl]; exact uw_630
abbrev mJx4a65c_elementData_915e3 : bp_M := (RJx4a65c, yJx4a65c_elementData_915e3, cJx4a65c_elementData_915e3, 2, (Option.some (FieldType.object "java/lang/Object")), [])
theorem uw_194 : Cond.code ⟨"java/util/ArrayList", "elementData", "(I)Ljava/lang/Object;"⟩ prog_34_method_18_code 2 (Option.some (FieldType.object "java/lang/Object")) ∈ bp_UW := bp_uw 194 (by decide +kernel) (by decide +kernel)
theorem cw_Jx4a65c_elementData_915e3 : bp_cw mJx4a65c_elementData_915e3 ∈ bp_UW := by rw [bp_cw0 rfl]; exact uw_194
abbrev mJx4a65c_get_915e3 : bp_M := (RJx4a65c, yJx4a65c_get_915e3, cJx4a65c_get_915e3, 2, (Option.some (FieldType.object "java/lang/Object")), [])
theorem uw_184 : Cond.code ⟨"java/util/ArrayList", "get", "(I)Ljava/lang/Object;"⟩ prog_34_method_20_code 2 (Option.some (FieldType.object "java/lang/Object")) ∈ bp_UW := bp_uw 184 (by decide +kernel) (by decide +kernel)
theorem cw_Jx4a65c_get_915e3 : bp_cw mJx4a65c_get_915e3 ∈ bp_UW := by rw [bp_cw0 rfl]; exact uw_184
abbrev mJx4a65c_set_bcc79 : bp_M := (RJx4a65c, yJx4a65c_set_bcc79, cJx4a65c_set_bcc79, 4, (Option.some (FieldType.object "java/lang/Object")), [])
theorem uw_947 : Cond.code ⟨"java/util/ArrayList", "set", "(ILjava/lang/Object;)Ljava/lang/Object;"⟩ prog_34_method_23_code 4 (Option.some (FieldType.object "java/lang/Object")) ∈ bp_UW := bp_uw 947 (by decide +kernel) (by decide +kernel)
theorem cw_Jx4a65c_set_bcc79 : bp_cw mJx4a65c_set_bcc79 ∈ bp_UW := by rw [bp_cw0 rfl]; exact uw_947
abbrev mJx4a65c_add_72be8 : bp_M := (RJx4a65c, yJx4a65c_add_72be8, cJx4a65c_add_72be8, 4, (Option.none : Option ClassFile.FieldType), [])
theorem uw_204 : Cond.code ⟨"java/util/ArrayList", "add", "(Ljava/lang/Object;[Ljava/lang/Object;I)V"⟩ prog_34_method_24_code 4 (Option.none : Option ClassFile.FieldType) ∈ bp_UW := bp_uw 204 (by decide +kernel) (by decide +kernel)
theorem cw_Jx4a65c_add_72be8 : bp_cw mJx4a65c_add_72be8 ∈ bp_UW := by rw [bp_cw0 rfl]; exact uw_204
abbrev mJx4a65c_add_9ea2d : bp_M := (RJx4a65c, yJx4a65c_add_9ea2d, cJx4a65c_add_9ea2d, 2, (Option.some FieldType.boolean), [])
theorem uw_200 : Cond.code ⟨"java/util/ArrayList", "add", "(Ljava/lang/Object;)Z"⟩ prog_34_method_25_code 2 (Option.some FieldType.boolean) ∈ bp_UW := bp_uw 200 (by decide +kernel) (by decide +kernel)
theorem cw_Jx4a65c_add_9ea2d : bp_cw mJx4a65c_add_9ea2d ∈ bp_UW := by rw [bp_cw0 rfl]; exact uw_200
abbrev mJx4a65c_add_7a177 : bp_M := (RJx4a65c, yJx4a65c_add_7a177, cJx4a65c_add_7a177, 5, (Option.none : Option ClassFile.FieldType), [])
theorem uw_640 : Cond.code ⟨"java/util/ArrayList", "add", "(ILjava/lang/Object;)V"⟩ prog_34_method_26_code 5 (Option.none : Option ClassFile.FieldType) ∈ bp_UW := bp_uw 640 (by decide +kernel) (by decide +kernel)
theorem cw_Jx4a65c_add_7a177 : bp_cw mJx4a65c_add_7a177 ∈ bp_UW := by rw [bp_cw0 rfl]; exact uw_640
abbrev mJx4a65c_remove_915e3 : bp_M := (RJx4a65c, yJx4a65c_remove_915e3, cJx4a65c_remove_915e3, 4, (Option.some (FieldType.object "java/lang/Object")), [])
theorem uw_911 : Cond.code ⟨"java/util/ArrayList", "remove", "(I)Ljava/lang/Object;"⟩ prog_34_method_29_code 4 (Option.some (FieldType.object "java/lang/Object")) ∈ bp_UW := bp_uw 911 (by decide +kernel) (by decide +kernel)
theorem cw_Jx4a65c_remove_915e3 : bp_cw mJx4a65c_remove_915e3 ∈ bp_UW := by rw [bp_cw0 rfl]; exact uw_911
abbrev mJx4a65c_fastRemove_b59b0 : bp_M := (RJx4a65c, yJx4a65c_fastRemove_b59b0, cJx4a65c_fastRemove_b59b0, 4, (Option.none : Option ClassFile.FieldType), [])
theorem uw_915 : Cond.code ⟨"java/util/ArrayList", "fastRemove", "([Ljava/lang/Object;I)V"⟩ prog_34_method_39_code 4 (Option.none : Option ClassFile.FieldType) ∈ bp_UW := bp_uw 915 (by decide +kernel) (by decide +kernel)
theorem cw_Jx4a65c_fastRemove_b59b0 : bp_cw mJx4a65c_fastRemove_b59b0 ∈ bp_UW := by rw [bp_cw0 rfl]; exact uw_915
abbrev mJx4a65c_clear_da8c8 : bp_M := (RJx4a65c, yJx4a65c_clear_da8c8, cJx4a65c_clear_da8c8, 4, (Option.none : Option ClassFile.FieldType), [])
theorem uw_172 : Cond.code ⟨"java/util/ArrayList", "clear", "()V"⟩ prog_34_method_40_code 4 (Option.none : Option ClassFile.FieldType) ∈ bp_UW := bp_uw 172 (by decide +kernel) (by decide +kernel)
theorem cw_Jx4a65c_clear_da8c8 : bp_cw mJx4a65c_clear_da8c8 ∈ bp_UW := by rw [bp_cw0 rfl]; exact uw_172
abbrev mJx4a65c_rangeCheckForAdd_d00df : bp_M := (RJx4a65c, yJx4a65c_rangeCheckForAdd_d00df, cJx4a65c_rangeCheckForAdd_d00df, 2, (Option.none : Option ClassFile.FieldType), [])
theorem uw_644 : Cond.code ⟨"java/util/ArrayList", "rangeCheckForAdd", "(I)V"⟩ prog_34_method_45_code 2 (Option.none : Option ClassFile.FieldType) ∈ bp_UW := bp_uw 644 (by decide +kernel) (by decide +kernel)
theorem cw_Jx4a65c_rangeCheckForAdd_d00df : bp_cw mJx4a65c_rangeCheckForAdd_d00df ∈ bp_UW := by rw [bp_cw0 rfl]; exact uw_644
abbrev mJxa1e45_init_da8c8 : bp_M := (RJxa1e45, yJxa1e45_init_da8c8, cJxa1e45_init_da8c8, 1, (Option.none : Option ClassFile.FieldType), [])
theorem uw_99 : Cond.code ⟨"java/util/AbstractCollection", "<init>", "()V"⟩ prog_32_method_1_code 1 (Option.none : Option ClassFile.FieldType) ∈ bp_UW := bp_uw 99 (by decide +kernel) (by decide +kernel)
theorem cw_Jxa1e45_init_da8c8 : bp_cw mJxa1e45_init_da8c8 ∈ bp_UW := by rw [bp_cw0 rfl]; exact uw_99
abbrev mJxc12de_init_da8c8 : bp_M := (RJxc12de, yJxc12de_init_da8c8, cJxc12de_init_da8c8, 1, (Option.none : Option ClassFile.FieldType), [])
theorem uw_96 : Cond.code ⟨"java/util/AbstractList", "<init>", "()V"⟩ prog_33_method_1_code 1 (Option.none : Option ClassFile.FieldType) ∈ bp_UW := bp_uw 96 (by decide +kernel) (by decide +kernel)
theorem cw_Jxc12de_init_da8c8 : bp_cw mJxc12de_init_da8c8 ∈ bp_UW := by rw [bp_cw0 rfl]; exact uw_96
abbrev mJ3_checkIndex_8e157 : bp_M := (RJ3, yJ3_checkIndex_8e157, cJ3_checkIndex_8e157, 3, (Option.some FieldType.int), [])
theorem uw_190 : Cond.code ⟨"jdk/internal/util/Preconditions", "checkIndex", "(IILjava/util/function/BiFunction;)I"⟩ prog_42_method_11_code 3 (Option.some FieldType.int) ∈ bp_UW := bp_uw 190 (by decide +kernel) (by decide +kernel)
theorem cw_J3_checkIndex_8e157 : bp_cw mJ3_checkIndex_8e157 ∈ bp_UW := by rw [bp_cw0 rfl]; exact uw_190
abbrev mJ15_checkIndex_7cf53 : bp_M := (RJ15, yJ15_checkIndex_7cf53, cJ15_checkIndex_7cf53, 2, (Option.some FieldType.int), [])
theorem uw_187 : Cond.code ⟨"java/util/Objects", "checkIndex", "(II)I"⟩ prog_38_method_17_code 2 (Option.some FieldType.int) ∈ bp_UW := bp_uw 187 (by decide +kernel) (by decide +kernel)
theorem cw_J15_checkIndex_7cf53 : bp_cw mJ15_checkIndex_7cf53 ∈ bp_UW := by rw [bp_cw0 rfl]; exact uw_187
abbrev mJ8_newLength_cabcc : bp_M := (RJ8, yJ8_newLength_cabcc, cJ8_newLength_cabcc, 4, (Option.some FieldType.int), [])
theorem uw_215 : Cond.code ⟨"jdk/internal/util/ArraysSupport", "newLength", "(III)I"⟩ prog_41_method_27_code 4 (Option.some FieldType.int) ∈ bp_UW := bp_uw 215 (by decide +kernel) (by decide +kernel)
theorem cw_J8_newLength_cabcc : bp_cw mJ8_newLength_cabcc ∈ bp_UW := by rw [bp_cw0 rfl]; exact uw_215
abbrev mJ7_copyOf_6403c : bp_M := (RJ7, yJ7_copyOf_6403c, cJ7_copyOf_6403c, 4, (Option.some (FieldType.array (FieldType.object "java/lang/Object"))), [])
theorem uw_245 : Cond.code ⟨"java/util/Arrays", "copyOf", "([Ljava/lang/Object;ILjava/lang/Class;)[Ljava/lang/Object;"⟩ prog_35_method_120_code 4 (Option.some (FieldType.array (FieldType.object "java/lang/Object"))) ∈ bp_UW := bp_uw 245 (by decide +kernel) (by decide +kernel)
theorem cw_J7_copyOf_6403c : bp_cw mJ7_copyOf_6403c ∈ bp_UW := by rw [bp_cw0 rfl]; exact uw_245
abbrev mJ7_copyOf_1904c : bp_M := (RJ7, yJ7_copyOf_1904c, cJ7_copyOf_1904c, 2, (Option.some (FieldType.array (FieldType.object "java/lang/Object"))), [])
theorem uw_225 : Cond.code ⟨"java/util/Arrays", "copyOf", "([Ljava/lang/Object;I)[Ljava/lang/Object;"⟩ prog_35_method_119_code 2 (Option.some (FieldType.array (FieldType.object "java/lang/Object"))) ∈ bp_UW := bp_uw 225 (by decide +kernel) (by decide +kernel)
theorem cw_J7_copyOf_1904c : bp_cw mJ7_copyOf_1904c ∈ bp_UW := by rw [bp_cw0 rfl]; exact uw_225
abbrev mJ6_bitCount_0f7a4 : bp_M := (RJ6, yJ6_bitCount_0f7a4, cJ6_bitCount_0f7a4, 1, (Option.some FieldType.int), [])
theorem uw_527 : Cond.code ⟨"java/lang/Integer", "bitCount", "(I)I"⟩ prog_19_method_49_code 1 (Option.some FieldType.int) ∈ bp_UW := bp_uw 527 (by decide +kernel) (by decide +kernel)
theorem cw_J6_bitCount_0f7a4 : bp_cw mJ6_bitCount_0f7a4 ∈ bp_UW := by rw [bp_cw0 rfl]; exact uw_527
theorem uw_484 : Cond.methodLink "Boreplan$Job" 1 ⟨"java/lang/Object", "<init>", "()V"⟩ ∈ bp_UW := bp_uw 484 (by decide +kernel) (by decide +kernel)
theorem ml_X0_1 : Cond.methodLink "Boreplan$Job" 1 ⟨"java/lang/Object", "<init>", "()V"⟩ ∈ bp_UW := uw_484
theorem uw_487 : Cond.fieldLink "Boreplan$Job" 7 "Boreplan$Job" "number" "I" ∈ bp_UW := bp_uw 487 (by decide +kernel) (by decide +kernel)
theorem fl_X0_7 : bp_FL RX0 7 0 0 (.int) (some true) := ⟨RX0, TX0, 5, "Boreplan$Job", tyX0, rfl, by decide, uc_X0, tyX0_ok, nmX0, uw_487, Or.inl rfl, rfl, (fun h => by cases h), (fun _ => ⟨rfl, rfl⟩)⟩
theorem uw_489 : Cond.fieldLink "Boreplan$Job" 13 "Boreplan$Job" "due" "I" ∈ bp_UW := bp_uw 489 (by decide +kernel) (by decide +kernel)
theorem fl_X0_13 : bp_FL RX0 13 0 1 (.int) (some true) := ⟨RX0, TX0, 5, "Boreplan$Job", tyX0, rfl, by decide, uc_X0, tyX0_ok, nmX0, uw_489, Or.inl rfl, rfl, (fun h => by cases h), (fun _ => ⟨rfl, rfl⟩)⟩
theorem uw_485 : Cond.classLink "Boreplan$Job" 16 "java/util/ArrayList" ∈ bp_UW := bp_uw 485 (by decide +kernel) (by decide +kernel)
theorem uw_90 : Cond.instantiable "java/util/ArrayList" 3 ∈ bp_UW := bp_uw 90 (by decide +kernel) (by decide +kernel)
theorem uw_50 : Cond.initialized "java/util/ArrayList" ∈ bp_UW := bp_uw 50 (by decide +kernel) (by decide +kernel)
theorem nw_X0_16 : bp_NW RX0 16 7 3 tyJx4a65c := ⟨RJx4a65c, TJx4a65c, rfl, uc_Jx4a65c, tyJx4a65c_ok, uw_485, uw_90, uw_50⟩
theorem uw_486 : Cond.methodLink "Boreplan$Job" 18 ⟨"java/util/ArrayList", "<init>", "()V"⟩ ∈ bp_UW := bp_uw 486 (by decide +kernel) (by decide +kernel)
theorem uw_92 : Cond.instanceMethod ⟨"java/util/ArrayList", "<init>", "()V"⟩ ∈ bp_UW := bp_uw 92 (by decide +kernel) (by decide +kernel)
theorem ml_X0_18 : bp_MI RX0 18 mJx4a65c_init_da8c8 0 := ⟨⟨uw_486, uw_50, cw_Jx4a65c_init_da8c8, ⟨by decide, by decide⟩, by decide +kernel⟩, rfl, rfl, rfl, uw_92⟩
theorem uw_491 : Cond.fieldLink "Boreplan$Job" 19 "Boreplan$Job" "operations" "Ljava/util/ArrayList;" ∈ bp_UW := bp_uw 491 (by decide +kernel) (by decide +kernel)
theorem fl_X0_19 : bp_FL RX0 19 0 2 (.object "java/util/ArrayList") (some true) := ⟨RX0, TX0, 5, "Boreplan$Job", tyX0, rfl, by decide, uc_X0, tyX0_ok, nmX0, uw_491, Or.inl rfl, rfl, (fun h => by cases h), (fun _ => ⟨rfl, rfl⟩)⟩
theorem uw_536 : Cond.methodLink "Boreplan$Job" 23 ⟨"java/util/ArrayList", "size", "()I"⟩ ∈ bp_UW := bp_uw 536 (by decide +kernel) (by decide +kernel)
theorem uw_178 : Cond.instanceMethod ⟨"java/util/ArrayList", "size", "()I"⟩ ∈ bp_UW := bp_uw 178 (by decide +kernel) (by decide +kernel)
theorem uw_179 : Cond.selects "java/util/ArrayList" ⟨"java/util/ArrayList", "size", "()I"⟩ ⟨"java/util/ArrayList", "size", "()I"⟩ ∈ bp_UW := bp_uw 179 (by decide +kernel) (by decide +kernel)
theorem ml_X0_23 : bp_MV RX0 23 mJx4a65c_size_8abf5 0 RJx4a65c := ⟨⟨uw_536, uw_50, cw_Jx4a65c_size_8abf5, ⟨by decide, by decide⟩, by decide +kernel⟩, rfl, uw_178, uw_179⟩
theorem uw_537 : Cond.classLink "Boreplan$Job" 27 "Boreplan$Operation" ∈ bp_UW := bp_uw 537 (by decide +kernel) (by decide +kernel)
theorem uw_538 : Cond.instantiable "Boreplan$Operation" 14 ∈ bp_UW := bp_uw 538 (by decide +kernel) (by decide +kernel)
theorem uw_69 : Cond.initialized "Boreplan$Operation" ∈ bp_UW := bp_uw 69 (by decide +kernel) (by decide +kernel)
theorem nw_X0_27 : bp_NW RX0 27 2 14 tyX2 := ⟨RX2, TX2, rfl, uc_X2, tyX2_ok, uw_537, uw_538, uw_69⟩
theorem uw_539 : Cond.methodLink "Boreplan$Job" 29 ⟨"Boreplan$Operation", "<init>", "(LBoreplan$Job;ILBoreplan$Machine;III)V"⟩ ∈ bp_UW := bp_uw 539 (by decide +kernel) (by decide +kernel)
theorem uw_540 : Cond.instanceMethod ⟨"Boreplan$Operation", "<init>", "(LBoreplan$Job;ILBoreplan$Machine;III)V"⟩ ∈ bp_UW := bp_uw 540 (by decide +kernel) (by decide +kernel)
theorem ml_X0_29 : bp_MI RX0 29 mX2_init 6 := ⟨⟨uw_539, uw_69, cw_X2_init, ⟨by decide, by decide⟩, by decide +kernel⟩, rfl, rfl, rfl, uw_540⟩
theorem uw_603 : Cond.methodLink "Boreplan$Job" 32 ⟨"java/util/ArrayList", "get", "(I)Ljava/lang/Object;"⟩ ∈ bp_UW := bp_uw 603 (by decide +kernel) (by decide +kernel)
theorem uw_182 : Cond.instanceMethod ⟨"java/util/ArrayList", "get", "(I)Ljava/lang/Object;"⟩ ∈ bp_UW := bp_uw 182 (by decide +kernel) (by decide +kernel)
theorem uw_183 : Cond.selects "java/util/ArrayList" ⟨"java/util/ArrayList", "get", "(I)Ljava/lang/Object;"⟩ ⟨"java/util/ArrayList", "get", "(I)Ljava/lang/Object;"⟩ ∈ bp_UW := bp_uw 183 (by decide +kernel) (by decide +kernel)
theorem ml_X0_32 : bp_MV RX0 32 mJx4a65c_get_915e3 1 RJx4a65c := ⟨⟨uw_603, uw_50, cw_Jx4a65c_get_915e3, ⟨by decide, by decide⟩, by decide +kernel⟩, rfl, uw_182, uw_183⟩
theorem cl_X0_27 : Cond.classLink "Boreplan$Job" 27 "Boreplan$Operation" ∈ bp_UW := uw_537
theorem uw_557 : Cond.fieldLink "Boreplan$Job" 36 "Boreplan$Operation" "aheadInJob" "LBoreplan$Operation;" ∈ bp_UW := bp_uw 557 (by decide +kernel) (by decide +kernel)
theorem fl_X0_36 : bp_FL RX0 36 2 6 (.object "Boreplan$Operation") (some false) := ⟨RX2, TX2, 14, "Boreplan$Operation", tyX2, rfl, by decide, uc_X2, tyX2_ok, nmX2, uw_557, Or.inl rfl, rfl, (fun _ => rfl), (fun h => by cases h)⟩
theorem uw_559 : Cond.fieldLink "Boreplan$Job" 40 "Boreplan$Operation" "behindInJob" "LBoreplan$Operation;" ∈ bp_UW := bp_uw 559 (by decide +kernel) (by decide +kernel)
theorem fl_X0_40 : bp_FL RX0 40 2 7 (.object "Boreplan$Operation") (some false) := ⟨RX2, TX2, 14, "Boreplan$Operation", tyX2, rfl, by decide, uc_X2, tyX2_ok, nmX2, uw_559, Or.inl rfl, rfl, (fun _ => rfl), (fun h => by cases h)⟩
theorem uw_604 : Cond.methodLink "Boreplan$Job" 43 ⟨"java/util/ArrayList", "add", "(Ljava/lang/Object;)Z"⟩ ∈ bp_UW := bp_uw 604 (by decide +kernel) (by decide +kernel)
theorem uw_198 : Cond.instanceMethod ⟨"java/util/ArrayList", "add", "(Ljava/lang/Object;)Z"⟩ ∈ bp_UW := bp_uw 198 (by decide +kernel) (by decide +kernel)
theorem uw_199 : Cond.selects "java/util/ArrayList" ⟨"java/util/ArrayList", "add", "(Ljava/lang/Object;)Z"⟩ ⟨"java/util/ArrayList", "add", "(Ljava/lang/Object;)Z"⟩ ∈ bp_UW := bp_uw 199 (by decide +kernel) (by decide +kernel)
theorem ml_X0_43 : bp_MV RX0 43 mJx4a65c_add_9ea2d 1 RJx4a65c := ⟨⟨uw_604, uw_50, cw_Jx4a65c_add_9ea2d, ⟨by decide, by decide⟩, by decide +kernel⟩, rfl, uw_198, uw_199⟩
theorem uw_356 : Cond.fieldLink "Boreplan$Job" 47 "Boreplan$Machine" "mostToolsNeeded" "I" ∈ bp_UW := bp_uw 356 (by decide +kernel) (by decide +kernel)
theorem fl_X0_47 : bp_FL RX0 47 1 2 (.int) (some false) := ⟨RX1, TX1, 7, "Boreplan$Machine", tyX1, rfl, by decide, uc_X1, tyX1_ok, nmX1, uw_356, Or.inl rfl, rfl, (fun _ => rfl), (fun h => by cases h)⟩
theorem uw_605 : Cond.methodLink "Boreplan$Job" 52 ⟨"java/lang/Integer", "bitCount", "(I)I"⟩ ∈ bp_UW := bp_uw 605 (by decide +kernel) (by decide +kernel)
theorem uw_68 : Cond.initialized "java/lang/Integer" ∈ bp_UW := bp_uw 68 (by decide +kernel) (by decide +kernel)
theorem uw_526 : Cond.static ⟨"java/lang/Integer", "bitCount", "(I)I"⟩ ∈ bp_UW := bp_uw 526 (by decide +kernel) (by decide +kernel)
theorem ml_X0_52 : bp_MS RX0 52 mJ6_bitCount_0f7a4 1 := ⟨⟨uw_605, uw_68, cw_J6_bitCount_0f7a4, ⟨by decide, by decide⟩, by decide +kernel⟩, uw_526⟩
theorem uw_606 : Cond.methodLink "Boreplan$Job" 58 ⟨"java/lang/Math", "max", "(II)I"⟩ ∈ bp_UW := bp_uw 606 (by decide +kernel) (by decide +kernel)
theorem ml_X0_58 : Cond.methodLink "Boreplan$Job" 58 ⟨"java/lang/Math", "max", "(II)I"⟩ ∈ bp_UW := uw_606
theorem uw_347 : Cond.methodLink "Boreplan$Machine" 3 ⟨"java/lang/Object", "<init>", "()V"⟩ ∈ bp_UW := bp_uw 347 (by decide +kernel) (by decide +kernel)
theorem ml_X1_3 : Cond.methodLink "Boreplan$Machine" 3 ⟨"java/lang/Object", "<init>", "()V"⟩ ∈ bp_UW := uw_347
theorem uw_348 : Cond.classLink "Boreplan$Machine" 9 "java/util/ArrayList" ∈ bp_UW := bp_uw 348 (by decide +kernel) (by decide +kernel)
theorem nw_X1_9 : bp_NW RX1 9 7 3 tyJx4a65c := ⟨RJx4a65c, TJx4a65c, rfl, uc_Jx4a65c, tyJx4a65c_ok, uw_348, uw_90, uw_50⟩
theorem uw_349 : Cond.methodLink "Boreplan$Machine" 11 ⟨"java/util/ArrayList", "<init>", "()V"⟩ ∈ bp_UW := bp_uw 349 (by decide +kernel) (by decide +kernel)
theorem ml_X1_11 : bp_MI RX1 11 mJx4a65c_init_da8c8 0 := ⟨⟨uw_349, uw_50, cw_Jx4a65c_init_da8c8, ⟨by decide, by decide⟩, by decide +kernel⟩, rfl, rfl, rfl, uw_92⟩
theorem uw_350 : Cond.fieldLink "Boreplan$Machine" 12 "Boreplan$Machine" "row" "Ljava/util/ArrayList;" ∈ bp_UW := bp_uw 350 (by decide +kernel) (by decide +kernel)
theorem fl_X1_12 : bp_FL RX1 12 1 0 (.object "java/util/ArrayList") (some true) := ⟨RX1, TX1, 7, "Boreplan$Machine", tyX1, rfl, by decide, uc_X1, tyX1_ok, nmX1, uw_350, Or.inl rfl, rfl, (fun h => by cases h), (fun _ => ⟨rfl, rfl⟩)⟩
theorem uw_354 : Cond.fieldLink "Boreplan$Machine" 18 "Boreplan$Machine" "capacity" "I" ∈ bp_UW := bp_uw 354 (by decide +kernel) (by decide +kernel)
theorem fl_X1_18 : bp_FL RX1 18 1 1 (.int) (some false) := ⟨RX1, TX1, 7, "Boreplan$Machine", tyX1, rfl, by decide, uc_X1, tyX1_ok, nmX1, uw_354, Or.inl rfl, rfl, (fun _ => rfl), (fun h => by cases h)⟩
theorem uw_637 : Cond.methodLink "Boreplan$Machine" 22 ⟨"java/util/ArrayList", "add", "(ILjava/lang/Object;)V"⟩ ∈ bp_UW := bp_uw 637 (by decide +kernel) (by decide +kernel)
theorem uw_638 : Cond.instanceMethod ⟨"java/util/ArrayList", "add", "(ILjava/lang/Object;)V"⟩ ∈ bp_UW := bp_uw 638 (by decide +kernel) (by decide +kernel)
theorem uw_639 : Cond.selects "java/util/ArrayList" ⟨"java/util/ArrayList", "add", "(ILjava/lang/Object;)V"⟩ ⟨"java/util/ArrayList", "add", "(ILjava/lang/Object;)V"⟩ ∈ bp_UW := bp_uw 639 (by decide +kernel) (by decide +kernel)
theorem ml_X1_22 : bp_MV RX1 22 mJx4a65c_add_7a177 2 RJx4a65c := ⟨⟨uw_637, uw_50, cw_Jx4a65c_add_7a177, ⟨by decide, by decide⟩, by decide +kernel⟩, rfl, uw_638, uw_639⟩
theorem uw_883 : Cond.methodLink "Boreplan$Machine" 26 ⟨"Boreplan$Machine", "link", "()V"⟩ ∈ bp_UW := bp_uw 883 (by decide +kernel) (by decide +kernel)
theorem uw_57 : Cond.initialized "Boreplan$Machine" ∈ bp_UW := bp_uw 57 (by decide +kernel) (by decide +kernel)
theorem uw_885 : Cond.instanceMethod ⟨"Boreplan$Machine", "link", "()V"⟩ ∈ bp_UW := bp_uw 885 (by decide +kernel) (by decide +kernel)
theorem uw_15 : Cond.selects "Boreplan$Machine" ⟨"Boreplan$Machine", "link", "()V"⟩ ⟨"Boreplan$Machine", "link", "()V"⟩ ∈ bp_UW := bp_uw 15 (by decide +kernel) (by decide +kernel)
theorem ml_X1_26 : bp_MV RX1 26 mX1_link 0 RX1 := ⟨⟨uw_883, uw_57, cw_X1_link, ⟨by decide, by decide⟩, by decide +kernel⟩, rfl, uw_885, uw_15⟩
theorem uw_908 : Cond.methodLink "Boreplan$Machine" 29 ⟨"java/util/ArrayList", "remove", "(I)Ljava/lang/Object;"⟩ ∈ bp_UW := bp_uw 908 (by decide +kernel) (by decide +kernel)
theorem uw_909 : Cond.instanceMethod ⟨"java/util/ArrayList", "remove", "(I)Ljava/lang/Object;"⟩ ∈ bp_UW := bp_uw 909 (by decide +kernel) (by decide +kernel)
theorem uw_910 : Cond.selects "java/util/ArrayList" ⟨"java/util/ArrayList", "remove", "(I)Ljava/lang/Object;"⟩ ⟨"java/util/ArrayList", "remove", "(I)Ljava/lang/Object;"⟩ ∈ bp_UW := bp_uw 910 (by decide +kernel) (by decide +kernel)
theorem ml_X1_29 : bp_MV RX1 29 mJx4a65c_remove_915e3 1 RJx4a65c := ⟨⟨uw_908, uw_50, cw_Jx4a65c_remove_915e3, ⟨by decide, by decide⟩, by decide +kernel⟩, rfl, uw_909, uw_910⟩
theorem uw_887 : Cond.methodLink "Boreplan$Machine" 33 ⟨"java/util/ArrayList", "size", "()I"⟩ ∈ bp_UW := bp_uw 887 (by decide +kernel) (by decide +kernel)
theorem ml_X1_33 : bp_MV RX1 33 mJx4a65c_size_8abf5 0 RJx4a65c := ⟨⟨uw_887, uw_50, cw_Jx4a65c_size_8abf5, ⟨by decide, by decide⟩, by decide +kernel⟩, rfl, uw_178, uw_179⟩
theorem uw_888 : Cond.methodLink "Boreplan$Machine" 37 ⟨"java/util/ArrayList", "get", "(I)Ljava/lang/Object;"⟩ ∈ bp_UW := bp_uw 888 (by decide +kernel) (by decide +kernel)
theorem ml_X1_37 : bp_MV RX1 37 mJx4a65c_get_915e3 1 RJx4a65c := ⟨⟨uw_888, uw_50, cw_Jx4a65c_get_915e3, ⟨by decide, by decide⟩, by decide +kernel⟩, rfl, uw_182, uw_183⟩
theorem uw_889 : Cond.classLink "Boreplan$Machine" 40 "Boreplan$Operation" ∈ bp_UW := bp_uw 889 (by decide +kernel) (by decide +kernel)
theorem cl_X1_40 : Cond.classLink "Boreplan$Machine" 40 "Boreplan$Operation" ∈ bp_UW := uw_889
theorem uw_544 : Cond.fieldLink "Boreplan$Machine" 42 "Boreplan$Operation" "job" "LBoreplan$Job;" ∈ bp_UW := bp_uw 544 (by decide +kernel) (by decide +kernel)
theorem fl_X1_42 : bp_FL RX1 42 2 0 (.object "Boreplan$Job") (none) := ⟨RX2, TX2, 14, "Boreplan$Operation", tyX2, rfl, by decide, uc_X2, tyX2_ok, nmX2, uw_544, Or.inl rfl, rfl, (fun h => by cases h), (fun h => by cases h)⟩
theorem uw_944 : Cond.methodLink "Boreplan$Machine" 46 ⟨"java/util/ArrayList", "set", "(ILjava/lang/Object;)Ljava/lang/Object;"⟩ ∈ bp_UW := bp_uw 944 (by decide +kernel) (by decide +kernel)
theorem uw_945 : Cond.instanceMethod ⟨"java/util/ArrayList", "set", "(ILjava/lang/Object;)Ljava/lang/Object;"⟩ ∈ bp_UW := bp_uw 945 (by decide +kernel) (by decide +kernel)
theorem uw_946 : Cond.selects "java/util/ArrayList" ⟨"java/util/ArrayList", "set", "(ILjava/lang/Object;)Ljava/lang/Object;"⟩ ⟨"java/util/ArrayList", "set", "(ILjava/lang/Object;)Ljava/lang/Object;"⟩ ∈ bp_UW := bp_uw 946 (by decide +kernel) (by decide +kernel)
theorem ml_X1_46 : bp_MV RX1 46 mJx4a65c_set_bcc79 2 RJx4a65c := ⟨⟨uw_944, uw_50, cw_Jx4a65c_set_bcc79, ⟨by decide, by decide⟩, by decide +kernel⟩, rfl, uw_945, uw_946⟩
theorem uw_563 : Cond.fieldLink "Boreplan$Machine" 50 "Boreplan$Operation" "aheadOnMachine" "LBoreplan$Operation;" ∈ bp_UW := bp_uw 563 (by decide +kernel) (by decide +kernel)
theorem fl_X1_50 : bp_FL RX1 50 2 8 (.object "Boreplan$Operation") (some false) := ⟨RX2, TX2, 14, "Boreplan$Operation", tyX2, rfl, by decide, uc_X2, tyX2_ok, nmX2, uw_563, Or.inl rfl, rfl, (fun _ => rfl), (fun h => by cases h)⟩
theorem uw_564 : Cond.fieldLink "Boreplan$Machine" 54 "Boreplan$Operation" "behindOnMachine" "LBoreplan$Operation;" ∈ bp_UW := bp_uw 564 (by decide +kernel) (by decide +kernel)
theorem fl_X1_54 : bp_FL RX1 54 2 9 (.object "Boreplan$Operation") (some false) := ⟨RX2, TX2, 14, "Boreplan$Operation", tyX2, rfl, by decide, uc_X2, tyX2_ok, nmX2, uw_564, Or.inl rfl, rfl, (fun _ => rfl), (fun h => by cases h)⟩
theorem uw_359 : Cond.fieldLink "Boreplan$Machine" 57 "Boreplan$Machine" "broken" "Z" ∈ bp_UW := bp_uw 359 (by decide +kernel) (by decide +kernel)
theorem fl_X1_57 : bp_FL RX1 57 1 3 (.boolean) (some false) := ⟨RX1, TX1, 7, "Boreplan$Machine", tyX1, rfl, by decide, uc_X1, tyX1_ok, nmX1, uw_359, Or.inl rfl, rfl, (fun _ => rfl), (fun h => by cases h)⟩
theorem uw_363 : Cond.fieldLink "Boreplan$Machine" 61 "Boreplan$Machine" "brokenTo" "I" ∈ bp_UW := bp_uw 363 (by decide +kernel) (by decide +kernel)
theorem fl_X1_61 : bp_FL RX1 61 1 5 (.int) (some false) := ⟨RX1, TX1, 7, "Boreplan$Machine", tyX1, rfl, by decide, uc_X1, tyX1_ok, nmX1, uw_363, Or.inl rfl, rfl, (fun _ => rfl), (fun h => by cases h)⟩
theorem uw_361 : Cond.fieldLink "Boreplan$Machine" 64 "Boreplan$Machine" "brokenFrom" "I" ∈ bp_UW := bp_uw 361 (by decide +kernel) (by decide +kernel)
theorem fl_X1_64 : bp_FL RX1 64 1 4 (.int) (some false) := ⟨RX1, TX1, 7, "Boreplan$Machine", tyX1, rfl, by decide, uc_X1, tyX1_ok, nmX1, uw_361, Or.inl rfl, rfl, (fun _ => rfl), (fun h => by cases h)⟩
theorem uw_459 : Cond.methodLink "Boreplan$Machine" 67 ⟨"Boreplan$Machine", "isBrokenDuring", "(II)Z"⟩ ∈ bp_UW := bp_uw 459 (by decide +kernel) (by decide +kernel)
theorem uw_461 : Cond.instanceMethod ⟨"Boreplan$Machine", "isBrokenDuring", "(II)Z"⟩ ∈ bp_UW := bp_uw 461 (by decide +kernel) (by decide +kernel)
theorem uw_10 : Cond.selects "Boreplan$Machine" ⟨"Boreplan$Machine", "isBrokenDuring", "(II)Z"⟩ ⟨"Boreplan$Machine", "isBrokenDuring", "(II)Z"⟩ ∈ bp_UW := bp_uw 10 (by decide +kernel) (by decide +kernel)
theorem ml_X1_67 : bp_MV RX1 67 mX1_isBrokenDuring 2 RX1 := ⟨⟨uw_459, uw_57, cw_X1_isBrokenDuring, ⟨by decide, by decide⟩, by decide +kernel⟩, rfl, uw_461, uw_10⟩
theorem uw_556 : Cond.fieldLink "Boreplan$Machine" 71 "Boreplan$Operation" "tools" "I" ∈ bp_UW := bp_uw 556 (by decide +kernel) (by decide +kernel)
theorem fl_X1_71 : bp_FL RX1 71 2 5 (.int) (none) := ⟨RX2, TX2, 14, "Boreplan$Operation", tyX2, rfl, by decide, uc_X2, tyX2_ok, nmX2, uw_556, Or.inl rfl, rfl, (fun h => by cases h), (fun h => by cases h)⟩
theorem uw_1060 : Cond.methodLink "Boreplan$Machine" 74 ⟨"java/lang/Integer", "bitCount", "(I)I"⟩ ∈ bp_UW := bp_uw 1060 (by decide +kernel) (by decide +kernel)
theorem ml_X1_74 : bp_MS RX1 74 mJ6_bitCount_0f7a4 1 := ⟨⟨uw_1060, uw_68, cw_J6_bitCount_0f7a4, ⟨by decide, by decide⟩, by decide +kernel⟩, uw_526⟩
theorem uw_1061 : Cond.methodLink "Boreplan$Machine" 80 ⟨"Boreplan$Machine", "neededLast", "(II)I"⟩ ∈ bp_UW := bp_uw 1061 (by decide +kernel) (by decide +kernel)
theorem uw_1063 : Cond.instanceMethod ⟨"Boreplan$Machine", "neededLast", "(II)I"⟩ ∈ bp_UW := bp_uw 1063 (by decide +kernel) (by decide +kernel)
theorem uw_22 : Cond.selects "Boreplan$Machine" ⟨"Boreplan$Machine", "neededLast", "(II)I"⟩ ⟨"Boreplan$Machine", "neededLast", "(II)I"⟩ ∈ bp_UW := bp_uw 22 (by decide +kernel) (by decide +kernel)
theorem ml_X1_80 : bp_MV RX1 80 mX1_neededLast 2 RX1 := ⟨⟨uw_1061, uw_57, cw_X1_neededLast, ⟨by decide, by decide⟩, by decide +kernel⟩, rfl, uw_1063, uw_22⟩
theorem uw_542 : Cond.methodLink "Boreplan$Operation" 1 ⟨"java/lang/Object", "<init>", "()V"⟩ ∈ bp_UW := bp_uw 542 (by decide +kernel) (by decide +kernel)
theorem ml_X2_1 : Cond.methodLink "Boreplan$Operation" 1 ⟨"java/lang/Object", "<init>", "()V"⟩ ∈ bp_UW := uw_542
theorem uw_543 : Cond.fieldLink "Boreplan$Operation" 7 "Boreplan$Operation" "job" "LBoreplan$Job;" ∈ bp_UW := bp_uw 543 (by decide +kernel) (by decide +kernel)
theorem fl_X2_7 : bp_FL RX2 7 2 0 (.object "Boreplan$Job") (some true) := ⟨RX2, TX2, 14, "Boreplan$Operation", tyX2, rfl, by decide, uc_X2, tyX2_ok, nmX2, uw_543, Or.inl rfl, rfl, (fun h => by cases h), (fun _ => ⟨rfl, rfl⟩)⟩
theorem uw_546 : Cond.fieldLink "Boreplan$Operation" 13 "Boreplan$Operation" "number" "I" ∈ bp_UW := bp_uw 546 (by decide +kernel) (by decide +kernel)
theorem fl_X2_13 : bp_FL RX2 13 2 1 (.int) (some true) := ⟨RX2, TX2, 14, "Boreplan$Operation", tyX2, rfl, by decide, uc_X2, tyX2_ok, nmX2, uw_546, Or.inl rfl, rfl, (fun h => by cases h), (fun _ => ⟨rfl, rfl⟩)⟩
theorem uw_548 : Cond.fieldLink "Boreplan$Operation" 17 "Boreplan$Operation" "machine" "LBoreplan$Machine;" ∈ bp_UW := bp_uw 548 (by decide +kernel) (by decide +kernel)
theorem fl_X2_17 : bp_FL RX2 17 2 2 (.object "Boreplan$Machine") (some true) := ⟨RX2, TX2, 14, "Boreplan$Operation", tyX2, rfl, by decide, uc_X2, tyX2_ok, nmX2, uw_548, Or.inl rfl, rfl, (fun h => by cases h), (fun _ => ⟨rfl, rfl⟩)⟩
theorem uw_551 : Cond.fieldLink "Boreplan$Operation" 21 "Boreplan$Operation" "length" "I" ∈ bp_UW := bp_uw 551 (by decide +kernel) (by decide +kernel)
theorem fl_X2_21 : bp_FL RX2 21 2 3 (.int) (some true) := ⟨RX2, TX2, 14, "Boreplan$Operation", tyX2, rfl, by decide, uc_X2, tyX2_ok, nmX2, uw_551, Or.inl rfl, rfl, (fun h => by cases h), (fun _ => ⟨rfl, rfl⟩)⟩
theorem uw_553 : Cond.fieldLink "Boreplan$Operation" 24 "Boreplan$Operation" "family" "I" ∈ bp_UW := bp_uw 553 (by decide +kernel) (by decide +kernel)
theorem fl_X2_24 : bp_FL RX2 24 2 4 (.int) (some true) := ⟨RX2, TX2, 14, "Boreplan$Operation", tyX2, rfl, by decide, uc_X2, tyX2_ok, nmX2, uw_553, Or.inl rfl, rfl, (fun h => by cases h), (fun _ => ⟨rfl, rfl⟩)⟩
theorem uw_555 : Cond.fieldLink "Boreplan$Operation" 27 "Boreplan$Operation" "tools" "I" ∈ bp_UW := bp_uw 555 (by decide +kernel) (by decide +kernel)
theorem fl_X2_27 : bp_FL RX2 27 2 5 (.int) (some true) := ⟨RX2, TX2, 14, "Boreplan$Operation", tyX2, rfl, by decide, uc_X2, tyX2_ok, nmX2, uw_555, Or.inl rfl, rfl, (fun h => by cases h), (fun _ => ⟨rfl, rfl⟩)⟩
theorem uw_488 : Cond.fieldLink "Boreplan$Operation" 30 "Boreplan$Job" "number" "I" ∈ bp_UW := bp_uw 488 (by decide +kernel) (by decide +kernel)
theorem fl_X2_30 : bp_FL RX2 30 0 0 (.int) (none) := ⟨RX0, TX0, 5, "Boreplan$Job", tyX0, rfl, by decide, uc_X0, tyX0_ok, nmX0, uw_488, Or.inl rfl, rfl, (fun h => by cases h), (fun h => by cases h)⟩
theorem uw_120 : Cond.methodLink "Boreplan$Setups" 3 ⟨"java/lang/Object", "<init>", "()V"⟩ ∈ bp_UW := bp_uw 120 (by decide +kernel) (by decide +kernel)
theorem ml_X3_3 : Cond.methodLink "Boreplan$Setups" 3 ⟨"java/lang/Object", "<init>", "()V"⟩ ∈ bp_UW := uw_120
theorem uw_121 : Cond.classLink "Boreplan$Setups" 9 "[[I" ∈ bp_UW := bp_uw 121 (by decide +kernel) (by decide +kernel)
theorem cl_X3_9 : Cond.classLink "Boreplan$Setups" 9 "[[I" ∈ bp_UW := uw_121
theorem uw_123 : Cond.fieldLink "Boreplan$Setups" 11 "Boreplan$Setups" "minutes" "[[I" ∈ bp_UW := bp_uw 123 (by decide +kernel) (by decide +kernel)
theorem fl_X3_11 : bp_FL RX3 11 3 0 (.array (.array .int)) (some true) := ⟨RX3, TX3, 1, "Boreplan$Setups", tyX3, rfl, by decide, uc_X3, tyX3_ok, nmX3, uw_123, Or.inl rfl, rfl, (fun h => by cases h), (fun _ => ⟨rfl, rfl⟩)⟩
theorem uw_554 : Cond.fieldLink "Boreplan$Setups" 16 "Boreplan$Operation" "family" "I" ∈ bp_UW := bp_uw 554 (by decide +kernel) (by decide +kernel)
theorem fl_X3_16 : bp_FL RX3 16 2 4 (.int) (none) := ⟨RX2, TX2, 14, "Boreplan$Operation", tyX2, rfl, by decide, uc_X2, tyX2_ok, nmX2, uw_554, Or.inl rfl, rfl, (fun h => by cases h), (fun h => by cases h)⟩
theorem uw_352 : Cond.fieldLink "Boreplan$Setups" 22 "Boreplan$Machine" "row" "Ljava/util/ArrayList;" ∈ bp_UW := bp_uw 352 (by decide +kernel) (by decide +kernel)
theorem fl_X3_22 : bp_FL RX3 22 1 0 (.object "java/util/ArrayList") (none) := ⟨RX1, TX1, 7, "Boreplan$Machine", tyX1, rfl, by decide, uc_X1, tyX1_ok, nmX1, uw_352, Or.inl rfl, rfl, (fun h => by cases h), (fun h => by cases h)⟩
theorem uw_1045 : Cond.methodLink "Boreplan$Setups" 28 ⟨"java/util/ArrayList", "size", "()I"⟩ ∈ bp_UW := bp_uw 1045 (by decide +kernel) (by decide +kernel)
theorem ml_X3_28 : bp_MV RX3 28 mJx4a65c_size_8abf5 0 RJx4a65c := ⟨⟨uw_1045, uw_50, cw_Jx4a65c_size_8abf5, ⟨by decide, by decide⟩, by decide +kernel⟩, rfl, uw_178, uw_179⟩
theorem uw_1046 : Cond.methodLink "Boreplan$Setups" 34 ⟨"java/util/ArrayList", "get", "(I)Ljava/lang/Object;"⟩ ∈ bp_UW := bp_uw 1046 (by decide +kernel) (by decide +kernel)
theorem ml_X3_34 : bp_MV RX3 34 mJx4a65c_get_915e3 1 RJx4a65c := ⟨⟨uw_1046, uw_50, cw_Jx4a65c_get_915e3, ⟨by decide, by decide⟩, by decide +kernel⟩, rfl, uw_182, uw_183⟩
theorem uw_1047 : Cond.classLink "Boreplan$Setups" 17 "Boreplan$Operation" ∈ bp_UW := bp_uw 1047 (by decide +kernel) (by decide +kernel)
theorem cl_X3_17 : Cond.classLink "Boreplan$Setups" 17 "Boreplan$Operation" ∈ bp_UW := uw_1047
theorem uw_561 : Cond.fieldLink "Boreplan$Setups" 38 "Boreplan$Operation" "aheadOnMachine" "LBoreplan$Operation;" ∈ bp_UW := bp_uw 561 (by decide +kernel) (by decide +kernel)
theorem fl_X3_38 : bp_FL RX3 38 2 8 (.object "Boreplan$Operation") (some false) := ⟨RX2, TX2, 14, "Boreplan$Operation", tyX2, rfl, by decide, uc_X2, tyX2_ok, nmX2, uw_561, Or.inl rfl, rfl, (fun _ => rfl), (fun h => by cases h)⟩
theorem uw_1048 : Cond.methodLink "Boreplan$Setups" 42 ⟨"Boreplan$Setups", "between", "(LBoreplan$Operation;LBoreplan$Operation;)I"⟩ ∈ bp_UW := bp_uw 1048 (by decide +kernel) (by decide +kernel)
theorem uw_51 : Cond.initialized "Boreplan$Setups" ∈ bp_UW := bp_uw 51 (by decide +kernel) (by decide +kernel)
theorem uw_262 : Cond.instanceMethod ⟨"Boreplan$Setups", "between", "(LBoreplan$Operation;LBoreplan$Operation;)I"⟩ ∈ bp_UW := bp_uw 262 (by decide +kernel) (by decide +kernel)
theorem uw_263 : Cond.selects "Boreplan$Setups" ⟨"Boreplan$Setups", "between", "(LBoreplan$Operation;LBoreplan$Operation;)I"⟩ ⟨"Boreplan$Setups", "between", "(LBoreplan$Operation;LBoreplan$Operation;)I"⟩ ∈ bp_UW := bp_uw 263 (by decide +kernel) (by decide +kernel)
theorem ml_X3_42 : bp_MV RX3 42 mX3_between 2 RX3 := ⟨⟨uw_1048, uw_51, cw_X3_between, ⟨by decide, by decide⟩, by decide +kernel⟩, rfl, uw_262, uw_263⟩
theorem uw_88 : Cond.methodLink "Boreplan$Shop" 3 ⟨"java/lang/Object", "<init>", "()V"⟩ ∈ bp_UW := bp_uw 88 (by decide +kernel) (by decide +kernel)
theorem ml_X4_3 : Cond.methodLink "Boreplan$Shop" 3 ⟨"java/lang/Object", "<init>", "()V"⟩ ∈ bp_UW := uw_88
theorem uw_89 : Cond.classLink "Boreplan$Shop" 9 "java/util/ArrayList" ∈ bp_UW := bp_uw 89 (by decide +kernel) (by decide +kernel)
theorem nw_X4_9 : bp_NW RX4 9 7 3 tyJx4a65c := ⟨RJx4a65c, TJx4a65c, rfl, uc_Jx4a65c, tyJx4a65c_ok, uw_89, uw_90, uw_50⟩
theorem uw_91 : Cond.methodLink "Boreplan$Shop" 11 ⟨"java/util/ArrayList", "<init>", "()V"⟩ ∈ bp_UW := bp_uw 91 (by decide +kernel) (by decide +kernel)
theorem ml_X4_11 : bp_MI RX4 11 mJx4a65c_init_da8c8 0 := ⟨⟨uw_91, uw_50, cw_Jx4a65c_init_da8c8, ⟨by decide, by decide⟩, by decide +kernel⟩, rfl, rfl, rfl, uw_92⟩
theorem uw_129 : Cond.fieldLink "Boreplan$Shop" 12 "Boreplan$Shop" "machines" "Ljava/util/ArrayList;" ∈ bp_UW := bp_uw 129 (by decide +kernel) (by decide +kernel)
theorem fl_X4_12 : bp_FL RX4 12 4 0 (.object "java/util/ArrayList") (some true) := ⟨RX4, TX4, 6, "Boreplan$Shop", tyX4, rfl, by decide, uc_X4, tyX4_ok, nmX4, uw_129, Or.inl rfl, rfl, (fun h => by cases h), (fun _ => ⟨rfl, rfl⟩)⟩
theorem uw_131 : Cond.fieldLink "Boreplan$Shop" 18 "Boreplan$Shop" "jobs" "Ljava/util/ArrayList;" ∈ bp_UW := bp_uw 131 (by decide +kernel) (by decide +kernel)
theorem fl_X4_18 : bp_FL RX4 18 4 1 (.object "java/util/ArrayList") (some true) := ⟨RX4, TX4, 6, "Boreplan$Shop", tyX4, rfl, by decide, uc_X4, tyX4_ok, nmX4, uw_131, Or.inl rfl, rfl, (fun h => by cases h), (fun _ => ⟨rfl, rfl⟩)⟩
theorem uw_115 : Cond.classLink "Boreplan$Shop" 21 "Boreplan$Setups" ∈ bp_UW := bp_uw 115 (by decide +kernel) (by decide +kernel)
theorem uw_116 : Cond.instantiable "Boreplan$Setups" 1 ∈ bp_UW := bp_uw 116 (by decide +kernel) (by decide +kernel)
theorem nw_X4_21 : bp_NW RX4 21 3 1 tyX3 := ⟨RX3, TX3, rfl, uc_X3, tyX3_ok, uw_115, uw_116, uw_51⟩
theorem uw_117 : Cond.methodLink "Boreplan$Shop" 23 ⟨"Boreplan$Setups", "<init>", "()V"⟩ ∈ bp_UW := bp_uw 117 (by decide +kernel) (by decide +kernel)
theorem uw_118 : Cond.instanceMethod ⟨"Boreplan$Setups", "<init>", "()V"⟩ ∈ bp_UW := bp_uw 118 (by decide +kernel) (by decide +kernel)
theorem ml_X4_23 : bp_MI RX4 23 mX3_init 0 := ⟨⟨uw_117, uw_51, cw_X3_init, ⟨by decide, by decide⟩, by decide +kernel⟩, rfl, rfl, rfl, uw_118⟩
theorem uw_133 : Cond.fieldLink "Boreplan$Shop" 24 "Boreplan$Shop" "table" "LBoreplan$Setups;" ∈ bp_UW := bp_uw 133 (by decide +kernel) (by decide +kernel)
theorem fl_X4_24 : bp_FL RX4 24 4 2 (.object "Boreplan$Setups") (some true) := ⟨RX4, TX4, 6, "Boreplan$Shop", tyX4, rfl, by decide, uc_X4, tyX4_ok, nmX4, uw_133, Or.inl rfl, rfl, (fun h => by cases h), (fun _ => ⟨rfl, rfl⟩)⟩
theorem uw_135 : Cond.fieldLink "Boreplan$Shop" 28 "Boreplan$Shop" "order" "Ljava/util/ArrayList;" ∈ bp_UW := bp_uw 135 (by decide +kernel) (by decide +kernel)
theorem fl_X4_28 : bp_FL RX4 28 4 3 (.object "java/util/ArrayList") (some true) := ⟨RX4, TX4, 6, "Boreplan$Shop", tyX4, rfl, by decide, uc_X4, tyX4_ok, nmX4, uw_135, Or.inl rfl, rfl, (fun h => by cases h), (fun _ => ⟨rfl, rfl⟩)⟩
theorem uw_136 : Cond.fieldLink "Boreplan$Shop" 31 "Boreplan$Shop" "path" "Ljava/util/ArrayList;" ∈ bp_UW := bp_uw 136 (by decide +kernel) (by decide +kernel)
theorem fl_X4_31 : bp_FL RX4 31 4 4 (.object "java/util/ArrayList") (some true) := ⟨RX4, TX4, 6, "Boreplan$Shop", tyX4, rfl, by decide, uc_X4, tyX4_ok, nmX4, uw_136, Or.inl rfl, rfl, (fun h => by cases h), (fun _ => ⟨rfl, rfl⟩)⟩
theorem uw_549 : Cond.fieldLink "Boreplan$Shop" 34 "Boreplan$Operation" "machine" "LBoreplan$Machine;" ∈ bp_UW := bp_uw 549 (by decide +kernel) (by decide +kernel)
theorem fl_X4_34 : bp_FL RX4 34 2 2 (.object "Boreplan$Machine") (none) := ⟨RX2, TX2, 14, "Boreplan$Operation", tyX2, rfl, by decide, uc_X2, tyX2_ok, nmX2, uw_549, Or.inl rfl, rfl, (fun h => by cases h), (fun h => by cases h)⟩
theorem uw_351 : Cond.fieldLink "Boreplan$Shop" 40 "Boreplan$Machine" "row" "Ljava/util/ArrayList;" ∈ bp_UW := bp_uw 351 (by decide +kernel) (by decide +kernel)
theorem fl_X4_40 : bp_FL RX4 40 1 0 (.object "java/util/ArrayList") (none) := ⟨RX1, TX1, 7, "Boreplan$Machine", tyX1, rfl, by decide, uc_X1, tyX1_ok, nmX1, uw_351, Or.inl rfl, rfl, (fun h => by cases h), (fun h => by cases h)⟩
theorem uw_177 : Cond.methodLink "Boreplan$Shop" 45 ⟨"java/util/ArrayList", "size", "()I"⟩ ∈ bp_UW := bp_uw 177 (by decide +kernel) (by decide +kernel)
theorem ml_X4_45 : bp_MV RX4 45 mJx4a65c_size_8abf5 0 RJx4a65c := ⟨⟨uw_177, uw_50, cw_Jx4a65c_size_8abf5, ⟨by decide, by decide⟩, by decide +kernel⟩, rfl, uw_178, uw_179⟩
theorem uw_901 : Cond.constant "Boreplan$Shop" 49 (1000000 : Int32) ∈ bp_UW := bp_uw 901 (by decide +kernel) (by decide +kernel)
theorem kc_X4_49 : Cond.constant "Boreplan$Shop" 49 (1000000 : Int32) ∈ bp_UW := uw_901
theorem uw_902 : Cond.methodLink "Boreplan$Shop" 50 ⟨"Boreplan$Machine", "insert", "(LBoreplan$Operation;I)V"⟩ ∈ bp_UW := bp_uw 902 (by decide +kernel) (by decide +kernel)
theorem uw_634 : Cond.instanceMethod ⟨"Boreplan$Machine", "insert", "(LBoreplan$Operation;I)V"⟩ ∈ bp_UW := bp_uw 634 (by decide +kernel) (by decide +kernel)
theorem uw_635 : Cond.selects "Boreplan$Machine" ⟨"Boreplan$Machine", "insert", "(LBoreplan$Operation;I)V"⟩ ⟨"Boreplan$Machine", "insert", "(LBoreplan$Operation;I)V"⟩ ∈ bp_UW := bp_uw 635 (by decide +kernel) (by decide +kernel)
theorem ml_X4_50 : bp_MV RX4 50 mX1_insert 2 RX1 := ⟨⟨uw_902, uw_57, cw_X1_insert, ⟨by decide, by decide⟩, by decide +kernel⟩, rfl, uw_634, uw_635⟩
theorem uw_903 : Cond.methodLink "Boreplan$Shop" 54 ⟨"Boreplan$Shop", "timeAll", "()Z"⟩ ∈ bp_UW := bp_uw 903 (by decide +kernel) (by decide +kernel)
theorem uw_47 : Cond.initialized "Boreplan$Shop" ∈ bp_UW := bp_uw 47 (by decide +kernel) (by decide +kernel)
theorem uw_438 : Cond.instanceMethod ⟨"Boreplan$Shop", "timeAll", "()Z"⟩ ∈ bp_UW := bp_uw 438 (by decide +kernel) (by decide +kernel)
theorem uw_439 : Cond.selects "Boreplan$Shop" ⟨"Boreplan$Shop", "timeAll", "()Z"⟩ ⟨"Boreplan$Shop", "timeAll", "()Z"⟩ ∈ bp_UW := bp_uw 439 (by decide +kernel) (by decide +kernel)
theorem ml_X4_54 : bp_MV RX4 54 mX4_timeAll 0 RX4 := ⟨⟨uw_903, uw_47, cw_X4_timeAll, ⟨by decide, by decide⟩, by decide +kernel⟩, rfl, uw_438, uw_439⟩
theorem uw_138 : Cond.fieldLink "Boreplan$Shop" 58 "Boreplan$Shop" "span" "I" ∈ bp_UW := bp_uw 138 (by decide +kernel) (by decide +kernel)
theorem fl_X4_58 : bp_FL RX4 58 4 5 (.int) (some false) := ⟨RX4, TX4, 6, "Boreplan$Shop", tyX4, rfl, by decide, uc_X4, tyX4_ok, nmX4, uw_138, Or.inl rfl, rfl, (fun _ => rfl), (fun h => by cases h)⟩
theorem uw_566 : Cond.fieldLink "Boreplan$Shop" 62 "Boreplan$Operation" "start" "I" ∈ bp_UW := bp_uw 566 (by decide +kernel) (by decide +kernel)
theorem fl_X4_62 : bp_FL RX4 62 2 10 (.int) (some false) := ⟨RX2, TX2, 14, "Boreplan$Operation", tyX2, rfl, by decide, uc_X2, tyX2_ok, nmX2, uw_566, Or.inl rfl, rfl, (fun _ => rfl), (fun h => by cases h)⟩
theorem uw_904 : Cond.methodLink "Boreplan$Shop" 65 ⟨"Boreplan$Machine", "takeOut", "(I)V"⟩ ∈ bp_UW := bp_uw 904 (by decide +kernel) (by decide +kernel)
theorem uw_905 : Cond.instanceMethod ⟨"Boreplan$Machine", "takeOut", "(I)V"⟩ ∈ bp_UW := bp_uw 905 (by decide +kernel) (by decide +kernel)
theorem uw_906 : Cond.selects "Boreplan$Machine" ⟨"Boreplan$Machine", "takeOut", "(I)V"⟩ ⟨"Boreplan$Machine", "takeOut", "(I)V"⟩ ∈ bp_UW := bp_uw 906 (by decide +kernel) (by decide +kernel)
theorem ml_X4_65 : bp_MV RX4 65 mX1_takeOut 1 RX1 := ⟨⟨uw_904, uw_57, cw_X1_takeOut, ⟨by decide, by decide⟩, by decide +kernel⟩, rfl, uw_905, uw_906⟩
theorem uw_441 : Cond.methodLink "Boreplan$Shop" 69 ⟨"Boreplan$Shop", "begin", "()I"⟩ ∈ bp_UW := bp_uw 441 (by decide +kernel) (by decide +kernel)
theorem uw_443 : Cond.instanceMethod ⟨"Boreplan$Shop", "begin", "()I"⟩ ∈ bp_UW := bp_uw 443 (by decide +kernel) (by decide +kernel)
theorem uw_7 : Cond.selects "Boreplan$Shop" ⟨"Boreplan$Shop", "begin", "()I"⟩ ⟨"Boreplan$Shop", "begin", "()I"⟩ ∈ bp_UW := bp_uw 7 (by decide +kernel) (by decide +kernel)
theorem ml_X4_69 : bp_MV RX4 69 mX4_begin 0 RX4 := ⟨⟨uw_441, uw_47, cw_X4_begin, ⟨by decide, by decide⟩, by decide +kernel⟩, rfl, uw_443, uw_7⟩
theorem uw_181 : Cond.methodLink "Boreplan$Shop" 72 ⟨"java/util/ArrayList", "get", "(I)Ljava/lang/Object;"⟩ ∈ bp_UW := bp_uw 181 (by decide +kernel) (by decide +kernel)
theorem ml_X4_72 : bp_MV RX4 72 mJx4a65c_get_915e3 1 RJx4a65c := ⟨⟨uw_181, uw_50, cw_Jx4a65c_get_915e3, ⟨by decide, by decide⟩, by decide +kernel⟩, rfl, uw_182, uw_183⟩
theorem uw_445 : Cond.classLink "Boreplan$Shop" 41 "Boreplan$Machine" ∈ bp_UW := bp_uw 445 (by decide +kernel) (by decide +kernel)
theorem cl_X4_41 : Cond.classLink "Boreplan$Shop" 41 "Boreplan$Machine" ∈ bp_UW := uw_445
theorem uw_446 : Cond.methodLink "Boreplan$Shop" 76 ⟨"Boreplan$Shop", "timeRow", "(LBoreplan$Machine;)V"⟩ ∈ bp_UW := bp_uw 446 (by decide +kernel) (by decide +kernel)
theorem uw_448 : Cond.instanceMethod ⟨"Boreplan$Shop", "timeRow", "(LBoreplan$Machine;)V"⟩ ∈ bp_UW := bp_uw 448 (by decide +kernel) (by decide +kernel)
theorem uw_8 : Cond.selects "Boreplan$Shop" ⟨"Boreplan$Shop", "timeRow", "(LBoreplan$Machine;)V"⟩ ⟨"Boreplan$Shop", "timeRow", "(LBoreplan$Machine;)V"⟩ ∈ bp_UW := bp_uw 8 (by decide +kernel) (by decide +kernel)
theorem ml_X4_76 : bp_MV RX4 76 mX4_timeRow 1 RX4 := ⟨⟨uw_446, uw_47, cw_X4_timeRow, ⟨by decide, by decide⟩, by decide +kernel⟩, rfl, uw_448, uw_8⟩
theorem uw_169 : Cond.methodLink "Boreplan$Shop" 80 ⟨"java/util/ArrayList", "clear", "()V"⟩ ∈ bp_UW := bp_uw 169 (by decide +kernel) (by decide +kernel)
theorem uw_170 : Cond.instanceMethod ⟨"java/util/ArrayList", "clear", "()V"⟩ ∈ bp_UW := bp_uw 170 (by decide +kernel) (by decide +kernel)
theorem uw_171 : Cond.selects "java/util/ArrayList" ⟨"java/util/ArrayList", "clear", "()V"⟩ ⟨"java/util/ArrayList", "clear", "()V"⟩ ∈ bp_UW := bp_uw 171 (by decide +kernel) (by decide +kernel)
theorem ml_X4_80 : bp_MV RX4 80 mJx4a65c_clear_da8c8 0 RJx4a65c := ⟨⟨uw_169, uw_50, cw_Jx4a65c_clear_da8c8, ⟨by decide, by decide⟩, by decide +kernel⟩, rfl, uw_170, uw_171⟩
theorem uw_195 : Cond.classLink "Boreplan$Shop" 83 "Boreplan$Job" ∈ bp_UW := bp_uw 195 (by decide +kernel) (by decide +kernel)
theorem cl_X4_83 : Cond.classLink "Boreplan$Shop" 83 "Boreplan$Job" ∈ bp_UW := uw_195
theorem uw_496 : Cond.fieldLink "Boreplan$Shop" 85 "Boreplan$Job" "timed" "I" ∈ bp_UW := bp_uw 496 (by decide +kernel) (by decide +kernel)
theorem fl_X4_85 : bp_FL RX4 85 0 4 (.int) (some false) := ⟨RX0, TX0, 5, "Boreplan$Job", tyX0, rfl, by decide, uc_X0, tyX0_ok, nmX0, uw_496, Or.inl rfl, rfl, (fun _ => rfl), (fun h => by cases h)⟩
theorem uw_364 : Cond.fieldLink "Boreplan$Shop" 88 "Boreplan$Machine" "timed" "I" ∈ bp_UW := bp_uw 364 (by decide +kernel) (by decide +kernel)
theorem fl_X4_88 : bp_FL RX4 88 1 6 (.int) (some false) := ⟨RX1, TX1, 7, "Boreplan$Machine", tyX1, rfl, by decide, uc_X1, tyX1_ok, nmX1, uw_364, Or.inl rfl, rfl, (fun _ => rfl), (fun h => by cases h)⟩
theorem uw_196 : Cond.classLink "Boreplan$Shop" 35 "Boreplan$Operation" ∈ bp_UW := bp_uw 196 (by decide +kernel) (by decide +kernel)
theorem cl_X4_35 : Cond.classLink "Boreplan$Shop" 35 "Boreplan$Operation" ∈ bp_UW := uw_196
theorem uw_547 : Cond.fieldLink "Boreplan$Shop" 89 "Boreplan$Operation" "number" "I" ∈ bp_UW := bp_uw 547 (by decide +kernel) (by decide +kernel)
theorem fl_X4_89 : bp_FL RX4 89 2 1 (.int) (none) := ⟨RX2, TX2, 14, "Boreplan$Operation", tyX2, rfl, by decide, uc_X2, tyX2_ok, nmX2, uw_547, Or.inl rfl, rfl, (fun h => by cases h), (fun h => by cases h)⟩
theorem uw_545 : Cond.fieldLink "Boreplan$Shop" 92 "Boreplan$Operation" "job" "LBoreplan$Job;" ∈ bp_UW := bp_uw 545 (by decide +kernel) (by decide +kernel)
theorem fl_X4_92 : bp_FL RX4 92 2 0 (.object "Boreplan$Job") (none) := ⟨RX2, TX2, 14, "Boreplan$Operation", tyX2, rfl, by decide, uc_X2, tyX2_ok, nmX2, uw_545, Or.inl rfl, rfl, (fun h => by cases h), (fun h => by cases h)⟩
theorem uw_450 : Cond.methodLink "Boreplan$Shop" 96 ⟨"Boreplan$Shop", "timeOne", "(LBoreplan$Operation;)V"⟩ ∈ bp_UW := bp_uw 450 (by decide +kernel) (by decide +kernel)
theorem uw_452 : Cond.instanceMethod ⟨"Boreplan$Shop", "timeOne", "(LBoreplan$Operation;)V"⟩ ∈ bp_UW := bp_uw 452 (by decide +kernel) (by decide +kernel)
theorem uw_9 : Cond.selects "Boreplan$Shop" ⟨"Boreplan$Shop", "timeOne", "(LBoreplan$Operation;)V"⟩ ⟨"Boreplan$Shop", "timeOne", "(LBoreplan$Operation;)V"⟩ ∈ bp_UW := bp_uw 9 (by decide +kernel) (by decide +kernel)
theorem ml_X4_96 : bp_MV RX4 96 mX4_timeOne 1 RX4 := ⟨⟨uw_450, uw_47, cw_X4_timeOne, ⟨by decide, by decide⟩, by decide +kernel⟩, rfl, uw_452, uw_9⟩
theorem uw_558 : Cond.fieldLink "Boreplan$Shop" 100 "Boreplan$Operation" "aheadInJob" "LBoreplan$Operation;" ∈ bp_UW := bp_uw 558 (by decide +kernel) (by decide +kernel)
theorem fl_X4_100 : bp_FL RX4 100 2 6 (.object "Boreplan$Operation") (some false) := ⟨RX2, TX2, 14, "Boreplan$Operation", tyX2, rfl, by decide, uc_X2, tyX2_ok, nmX2, uw_558, Or.inl rfl, rfl, (fun _ => rfl), (fun h => by cases h)⟩
theorem uw_562 : Cond.fieldLink "Boreplan$Shop" 104 "Boreplan$Operation" "aheadOnMachine" "LBoreplan$Operation;" ∈ bp_UW := bp_uw 562 (by decide +kernel) (by decide +kernel)
theorem fl_X4_104 : bp_FL RX4 104 2 8 (.object "Boreplan$Operation") (some false) := ⟨RX2, TX2, 14, "Boreplan$Operation", tyX2, rfl, by decide, uc_X2, tyX2_ok, nmX2, uw_562, Or.inl rfl, rfl, (fun _ => rfl), (fun h => by cases h)⟩
theorem uw_568 : Cond.fieldLink "Boreplan$Shop" 107 "Boreplan$Operation" "finish" "I" ∈ bp_UW := bp_uw 568 (by decide +kernel) (by decide +kernel)
theorem fl_X4_107 : bp_FL RX4 107 2 11 (.int) (some false) := ⟨RX2, TX2, 14, "Boreplan$Operation", tyX2, rfl, by decide, uc_X2, tyX2_ok, nmX2, uw_568, Or.inl rfl, rfl, (fun _ => rfl), (fun h => by cases h)⟩
theorem uw_261 : Cond.methodLink "Boreplan$Shop" 110 ⟨"Boreplan$Setups", "between", "(LBoreplan$Operation;LBoreplan$Operation;)I"⟩ ∈ bp_UW := bp_uw 261 (by decide +kernel) (by decide +kernel)
theorem ml_X4_110 : bp_MV RX4 110 mX3_between 2 RX3 := ⟨⟨uw_261, uw_51, cw_X3_between, ⟨by decide, by decide⟩, by decide +kernel⟩, rfl, uw_262, uw_263⟩
theorem uw_454 : Cond.methodLink "Boreplan$Shop" 114 ⟨"java/lang/Math", "max", "(II)I"⟩ ∈ bp_UW := bp_uw 454 (by decide +kernel) (by decide +kernel)
theorem ml_X4_114 : Cond.methodLink "Boreplan$Shop" 114 ⟨"java/lang/Math", "max", "(II)I"⟩ ∈ bp_UW := uw_454
theorem uw_552 : Cond.fieldLink "Boreplan$Shop" 120 "Boreplan$Operation" "length" "I" ∈ bp_UW := bp_uw 552 (by decide +kernel) (by decide +kernel)
theorem fl_X4_120 : bp_FL RX4 120 2 3 (.int) (none) := ⟨RX2, TX2, 14, "Boreplan$Operation", tyX2, rfl, by decide, uc_X2, tyX2_ok, nmX2, uw_552, Or.inl rfl, rfl, (fun h => by cases h), (fun h => by cases h)⟩
theorem uw_455 : Cond.methodLink "Boreplan$Shop" 123 ⟨"Boreplan$Machine", "leastStart", "(II)I"⟩ ∈ bp_UW := bp_uw 455 (by decide +kernel) (by decide +kernel)
theorem uw_456 : Cond.instanceMethod ⟨"Boreplan$Machine", "leastStart", "(II)I"⟩ ∈ bp_UW := bp_uw 456 (by decide +kernel) (by decide +kernel)
theorem uw_457 : Cond.selects "Boreplan$Machine" ⟨"Boreplan$Machine", "leastStart", "(II)I"⟩ ⟨"Boreplan$Machine", "leastStart", "(II)I"⟩ ∈ bp_UW := bp_uw 457 (by decide +kernel) (by decide +kernel)
theorem ml_X4_123 : bp_MV RX4 123 mX1_leastStart 2 RX1 := ⟨⟨uw_455, uw_57, cw_X1_leastStart, ⟨by decide, by decide⟩, by decide +kernel⟩, rfl, uw_456, uw_457⟩
theorem uw_197 : Cond.methodLink "Boreplan$Shop" 126 ⟨"java/util/ArrayList", "add", "(Ljava/lang/Object;)Z"⟩ ∈ bp_UW := bp_uw 197 (by decide +kernel) (by decide +kernel)
theorem ml_X4_126 : bp_MV RX4 126 mJx4a65c_add_9ea2d 1 RJx4a65c := ⟨⟨uw_197, uw_50, cw_Jx4a65c_add_9ea2d, ⟨by decide, by decide⟩, by decide +kernel⟩, rfl, uw_198, uw_199⟩
theorem uw_570 : Cond.fieldLink "Boreplan$Shop" 130 "Boreplan$Operation" "startInRounds" "I" ∈ bp_UW := bp_uw 570 (by decide +kernel) (by decide +kernel)
theorem fl_X4_130 : bp_FL RX4 130 2 12 (.int) (some false) := ⟨RX2, TX2, 14, "Boreplan$Operation", tyX2, rfl, by decide, uc_X2, tyX2_ok, nmX2, uw_570, Or.inl rfl, rfl, (fun _ => rfl), (fun h => by cases h)⟩
theorem uw_991 : Cond.methodLink "Boreplan$Shop" 133 ⟨"Boreplan$Shop", "putRowLater", "(LBoreplan$Machine;)Z"⟩ ∈ bp_UW := bp_uw 991 (by decide +kernel) (by decide +kernel)
theorem uw_993 : Cond.instanceMethod ⟨"Boreplan$Shop", "putRowLater", "(LBoreplan$Machine;)Z"⟩ ∈ bp_UW := bp_uw 993 (by decide +kernel) (by decide +kernel)
theorem uw_19 : Cond.selects "Boreplan$Shop" ⟨"Boreplan$Shop", "putRowLater", "(LBoreplan$Machine;)Z"⟩ ⟨"Boreplan$Shop", "putRowLater", "(LBoreplan$Machine;)Z"⟩ ∈ bp_UW := bp_uw 19 (by decide +kernel) (by decide +kernel)
theorem ml_X4_133 : bp_MV RX4 133 mX4_putRowLater 1 RX4 := ⟨⟨uw_991, uw_47, cw_X4_putRowLater, ⟨by decide, by decide⟩, by decide +kernel⟩, rfl, uw_993, uw_19⟩
theorem uw_995 : Cond.methodLink "Boreplan$Shop" 137 ⟨"Boreplan$Shop", "readyInRounds", "(LBoreplan$Operation;)I"⟩ ∈ bp_UW := bp_uw 995 (by decide +kernel) (by decide +kernel)
theorem uw_997 : Cond.instanceMethod ⟨"Boreplan$Shop", "readyInRounds", "(LBoreplan$Operation;)I"⟩ ∈ bp_UW := bp_uw 997 (by decide +kernel) (by decide +kernel)
theorem uw_20 : Cond.selects "Boreplan$Shop" ⟨"Boreplan$Shop", "readyInRounds", "(LBoreplan$Operation;)I"⟩ ⟨"Boreplan$Shop", "readyInRounds", "(LBoreplan$Operation;)I"⟩ ∈ bp_UW := bp_uw 20 (by decide +kernel) (by decide +kernel)
theorem ml_X4_137 : bp_MV RX4 137 mX4_readyInRounds 1 RX4 := ⟨⟨uw_995, uw_47, cw_X4_readyInRounds, ⟨by decide, by decide⟩, by decide +kernel⟩, rfl, uw_997, uw_20⟩
theorem uw_1018 : Cond.methodLink "Boreplan$Shop" 141 ⟨"Boreplan$Shop", "latestFinish", "(LBoreplan$Operation;)I"⟩ ∈ bp_UW := bp_uw 1018 (by decide +kernel) (by decide +kernel)
theorem uw_1020 : Cond.instanceMethod ⟨"Boreplan$Shop", "latestFinish", "(LBoreplan$Operation;)I"⟩ ∈ bp_UW := bp_uw 1020 (by decide +kernel) (by decide +kernel)
theorem uw_21 : Cond.selects "Boreplan$Shop" ⟨"Boreplan$Shop", "latestFinish", "(LBoreplan$Operation;)I"⟩ ⟨"Boreplan$Shop", "latestFinish", "(LBoreplan$Operation;)I"⟩ ∈ bp_UW := bp_uw 21 (by decide +kernel) (by decide +kernel)
theorem ml_X4_141 : bp_MV RX4 141 mX4_latestFinish 1 RX4 := ⟨⟨uw_1018, uw_47, cw_X4_latestFinish, ⟨by decide, by decide⟩, by decide +kernel⟩, rfl, uw_1020, uw_21⟩
theorem uw_1023 : Cond.methodLink "Boreplan$Shop" 144 ⟨"Boreplan$Machine", "greatestStart", "(II)I"⟩ ∈ bp_UW := bp_uw 1023 (by decide +kernel) (by decide +kernel)
theorem uw_1024 : Cond.instanceMethod ⟨"Boreplan$Machine", "greatestStart", "(II)I"⟩ ∈ bp_UW := bp_uw 1024 (by decide +kernel) (by decide +kernel)
theorem uw_1025 : Cond.selects "Boreplan$Machine" ⟨"Boreplan$Machine", "greatestStart", "(II)I"⟩ ⟨"Boreplan$Machine", "greatestStart", "(II)I"⟩ ∈ bp_UW := bp_uw 1025 (by decide +kernel) (by decide +kernel)
theorem ml_X4_144 : bp_MV RX4 144 mX1_greatestStart 2 RX1 := ⟨⟨uw_1023, uw_57, cw_X1_greatestStart, ⟨by decide, by decide⟩, by decide +kernel⟩, rfl, uw_1024, uw_1025⟩
theorem uw_572 : Cond.fieldLink "Boreplan$Shop" 147 "Boreplan$Operation" "latestStart" "I" ∈ bp_UW := bp_uw 572 (by decide +kernel) (by decide +kernel)
theorem fl_X4_147 : bp_FL RX4 147 2 13 (.int) (some false) := ⟨RX2, TX2, 14, "Boreplan$Operation", tyX2, rfl, by decide, uc_X2, tyX2_ok, nmX2, uw_572, Or.inl rfl, rfl, (fun _ => rfl), (fun h => by cases h)⟩
theorem uw_560 : Cond.fieldLink "Boreplan$Shop" 150 "Boreplan$Operation" "behindInJob" "LBoreplan$Operation;" ∈ bp_UW := bp_uw 560 (by decide +kernel) (by decide +kernel)
theorem fl_X4_150 : bp_FL RX4 150 2 7 (.object "Boreplan$Operation") (some false) := ⟨RX2, TX2, 14, "Boreplan$Operation", tyX2, rfl, by decide, uc_X2, tyX2_ok, nmX2, uw_560, Or.inl rfl, rfl, (fun _ => rfl), (fun h => by cases h)⟩
theorem uw_565 : Cond.fieldLink "Boreplan$Shop" 153 "Boreplan$Operation" "behindOnMachine" "LBoreplan$Operation;" ∈ bp_UW := bp_uw 565 (by decide +kernel) (by decide +kernel)
theorem fl_X4_153 : bp_FL RX4 153 2 9 (.object "Boreplan$Operation") (some false) := ⟨RX2, TX2, 14, "Boreplan$Operation", tyX2, rfl, by decide, uc_X2, tyX2_ok, nmX2, uw_565, Or.inl rfl, rfl, (fun _ => rfl), (fun h => by cases h)⟩
theorem uw_1022 : Cond.methodLink "Boreplan$Shop" 156 ⟨"java/lang/Math", "min", "(II)I"⟩ ∈ bp_UW := bp_uw 1022 (by decide +kernel) (by decide +kernel)
theorem ml_X4_156 : Cond.methodLink "Boreplan$Shop" 156 ⟨"java/lang/Math", "min", "(II)I"⟩ ∈ bp_UW := uw_1022
theorem uw_173 : Cond.methodLink "Boreplan$Shop" 159 ⟨"Boreplan$Shop", "lastOfPath", "()LBoreplan$Operation;"⟩ ∈ bp_UW := bp_uw 173 (by decide +kernel) (by decide +kernel)
theorem uw_175 : Cond.instanceMethod ⟨"Boreplan$Shop", "lastOfPath", "()LBoreplan$Operation;"⟩ ∈ bp_UW := bp_uw 175 (by decide +kernel) (by decide +kernel)
theorem uw_0 : Cond.selects "Boreplan$Shop" ⟨"Boreplan$Shop", "lastOfPath", "()LBoreplan$Operation;"⟩ ⟨"Boreplan$Shop", "lastOfPath", "()LBoreplan$Operation;"⟩ ∈ bp_UW := bp_uw 0 (by decide +kernel) (by decide +kernel)
theorem ml_X4_159 : bp_MV RX4 159 mX4_lastOfPath 0 RX4 := ⟨⟨uw_173, uw_47, cw_X4_lastOfPath, ⟨by decide, by decide⟩, by decide +kernel⟩, rfl, uw_175, uw_0⟩
theorem uw_257 : Cond.methodLink "Boreplan$Shop" 163 ⟨"Boreplan$Shop", "aheadOnPath", "(LBoreplan$Operation;)LBoreplan$Operation;"⟩ ∈ bp_UW := bp_uw 257 (by decide +kernel) (by decide +kernel)
theorem uw_259 : Cond.instanceMethod ⟨"Boreplan$Shop", "aheadOnPath", "(LBoreplan$Operation;)LBoreplan$Operation;"⟩ ∈ bp_UW := bp_uw 259 (by decide +kernel) (by decide +kernel)
theorem uw_4 : Cond.selects "Boreplan$Shop" ⟨"Boreplan$Shop", "aheadOnPath", "(LBoreplan$Operation;)LBoreplan$Operation;"⟩ ⟨"Boreplan$Shop", "aheadOnPath", "(LBoreplan$Operation;)LBoreplan$Operation;"⟩ ∈ bp_UW := bp_uw 4 (by decide +kernel) (by decide +kernel)
theorem ml_X4_163 : bp_MV RX4 163 mX4_aheadOnPath 1 RX4 := ⟨⟨uw_257, uw_47, cw_X4_aheadOnPath, ⟨by decide, by decide⟩, by decide +kernel⟩, rfl, uw_259, uw_4⟩
theorem uw_495 : Cond.fieldLink "Boreplan$Shop" 167 "Boreplan$Job" "isPlaced" "Z" ∈ bp_UW := bp_uw 495 (by decide +kernel) (by decide +kernel)
theorem fl_X4_167 : bp_FL RX4 167 0 3 (.boolean) (some false) := ⟨RX0, TX0, 5, "Boreplan$Job", tyX0, rfl, by decide, uc_X0, tyX0_ok, nmX0, uw_495, Or.inl rfl, rfl, (fun _ => rfl), (fun h => by cases h)⟩
theorem uw_493 : Cond.fieldLink "Boreplan$Shop" 171 "Boreplan$Job" "operations" "Ljava/util/ArrayList;" ∈ bp_UW := bp_uw 493 (by decide +kernel) (by decide +kernel)
theorem fl_X4_171 : bp_FL RX4 171 0 2 (.object "java/util/ArrayList") (none) := ⟨RX0, TX0, 5, "Boreplan$Job", tyX0, rfl, by decide, uc_X0, tyX0_ok, nmX0, uw_493, Or.inl rfl, rfl, (fun h => by cases h), (fun h => by cases h)⟩
theorem uw_80 : Cond.methodLink "Boreplan" 3 ⟨"java/lang/Object", "<init>", "()V"⟩ ∈ bp_UW := bp_uw 80 (by decide +kernel) (by decide +kernel)
theorem ml_X5_3 : Cond.methodLink "Boreplan" 3 ⟨"java/lang/Object", "<init>", "()V"⟩ ∈ bp_UW := uw_80
theorem uw_83 : Cond.classLink "Boreplan" 9 "Boreplan$Shop" ∈ bp_UW := bp_uw 83 (by decide +kernel) (by decide +kernel)
theorem uw_84 : Cond.instantiable "Boreplan$Shop" 6 ∈ bp_UW := bp_uw 84 (by decide +kernel) (by decide +kernel)
theorem nw_X5_9 : bp_NW RX5 9 4 6 tyX4 := ⟨RX4, TX4, rfl, uc_X4, tyX4_ok, uw_83, uw_84, uw_47⟩
theorem uw_85 : Cond.methodLink "Boreplan" 11 ⟨"Boreplan$Shop", "<init>", "()V"⟩ ∈ bp_UW := bp_uw 85 (by decide +kernel) (by decide +kernel)
theorem uw_86 : Cond.instanceMethod ⟨"Boreplan$Shop", "<init>", "()V"⟩ ∈ bp_UW := bp_uw 86 (by decide +kernel) (by decide +kernel)
theorem ml_X5_11 : bp_MI RX5 11 mX4_init 0 := ⟨⟨uw_85, uw_47, cw_X4_init, ⟨by decide, by decide⟩, by decide +kernel⟩, rfl, rfl, rfl, uw_86⟩
theorem uw_153 : Cond.fieldLink "Boreplan" 12 "Boreplan" "shop" "LBoreplan$Shop;" ∈ bp_UW := bp_uw 153 (by decide +kernel) (by decide +kernel)
theorem fl_X5_12 : bp_FL RX5 12 5 0 (.object "Boreplan$Shop") (some true) := ⟨RX5, TX5, 1, "Boreplan", tyX5, rfl, by decide, uc_X5, tyX5_ok, nmX5, uw_153, Or.inl rfl, rfl, (fun h => by cases h), (fun _ => ⟨rfl, rfl⟩)⟩
theorem uw_130 : Cond.fieldLink "Boreplan" 16 "Boreplan$Shop" "machines" "Ljava/util/ArrayList;" ∈ bp_UW := bp_uw 130 (by decide +kernel) (by decide +kernel)
theorem fl_X5_16 : bp_FL RX5 16 4 0 (.object "java/util/ArrayList") (none) := ⟨RX4, TX4, 6, "Boreplan$Shop", tyX4, rfl, by decide, uc_X4, tyX4_ok, nmX4, uw_130, Or.inl rfl, rfl, (fun h => by cases h), (fun h => by cases h)⟩
theorem uw_265 : Cond.methodLink "Boreplan" 20 ⟨"java/util/ArrayList", "size", "()I"⟩ ∈ bp_UW := bp_uw 265 (by decide +kernel) (by decide +kernel)
theorem ml_X5_20 : bp_MV RX5 20 mJx4a65c_size_8abf5 0 RJx4a65c := ⟨⟨uw_265, uw_50, cw_Jx4a65c_size_8abf5, ⟨by decide, by decide⟩, by decide +kernel⟩, rfl, uw_178, uw_179⟩
theorem uw_342 : Cond.classLink "Boreplan" 33 "Boreplan$Machine" ∈ bp_UW := bp_uw 342 (by decide +kernel) (by decide +kernel)
theorem uw_343 : Cond.instantiable "Boreplan$Machine" 7 ∈ bp_UW := bp_uw 343 (by decide +kernel) (by decide +kernel)
theorem nw_X5_33 : bp_NW RX5 33 1 7 tyX1 := ⟨RX1, TX1, rfl, uc_X1, tyX1_ok, uw_342, uw_343, uw_57⟩
theorem uw_344 : Cond.methodLink "Boreplan" 35 ⟨"Boreplan$Machine", "<init>", "()V"⟩ ∈ bp_UW := bp_uw 344 (by decide +kernel) (by decide +kernel)
theorem uw_345 : Cond.instanceMethod ⟨"Boreplan$Machine", "<init>", "()V"⟩ ∈ bp_UW := bp_uw 345 (by decide +kernel) (by decide +kernel)
theorem ml_X5_35 : bp_MI RX5 35 mX1_init 0 := ⟨⟨uw_344, uw_57, cw_X1_init, ⟨by decide, by decide⟩, by decide +kernel⟩, rfl, rfl, rfl, uw_345⟩
theorem uw_380 : Cond.methodLink "Boreplan" 36 ⟨"java/util/ArrayList", "add", "(Ljava/lang/Object;)Z"⟩ ∈ bp_UW := bp_uw 380 (by decide +kernel) (by decide +kernel)
theorem ml_X5_36 : bp_MV RX5 36 mJx4a65c_add_9ea2d 1 RJx4a65c := ⟨⟨uw_380, uw_50, cw_Jx4a65c_add_9ea2d, ⟨by decide, by decide⟩, by decide +kernel⟩, rfl, uw_198, uw_199⟩
theorem uw_390 : Cond.methodLink "Boreplan" 40 ⟨"Boreplan", "knownMachine", "(I)LBoreplan$Machine;"⟩ ∈ bp_UW := bp_uw 390 (by decide +kernel) (by decide +kernel)
theorem uw_46 : Cond.initialized "Boreplan" ∈ bp_UW := bp_uw 46 (by decide +kernel) (by decide +kernel)
theorem uw_392 : Cond.instanceMethod ⟨"Boreplan", "knownMachine", "(I)LBoreplan$Machine;"⟩ ∈ bp_UW := bp_uw 392 (by decide +kernel) (by decide +kernel)
theorem uw_6 : Cond.selects "Boreplan" ⟨"Boreplan", "knownMachine", "(I)LBoreplan$Machine;"⟩ ⟨"Boreplan", "knownMachine", "(I)LBoreplan$Machine;"⟩ ∈ bp_UW := bp_uw 6 (by decide +kernel) (by decide +kernel)
theorem ml_X5_40 : bp_MV RX5 40 mX5_knownMachine 1 RX5 := ⟨⟨uw_390, uw_46, cw_X5_knownMachine, ⟨by decide, by decide⟩, by decide +kernel⟩, rfl, uw_392, uw_6⟩
theorem uw_357 : Cond.fieldLink "Boreplan" 49 "Boreplan$Machine" "mostToolsNeeded" "I" ∈ bp_UW := bp_uw 357 (by decide +kernel) (by decide +kernel)
theorem fl_X5_49 : bp_FL RX5 49 1 2 (.int) (some false) := ⟨RX1, TX1, 7, "Boreplan$Machine", tyX1, rfl, by decide, uc_X1, tyX1_ok, nmX1, uw_357, Or.inl rfl, rfl, (fun _ => rfl), (fun h => by cases h)⟩
theorem uw_355 : Cond.fieldLink "Boreplan" 55 "Boreplan$Machine" "capacity" "I" ∈ bp_UW := bp_uw 355 (by decide +kernel) (by decide +kernel)
theorem fl_X5_55 : bp_FL RX5 55 1 1 (.int) (some false) := ⟨RX1, TX1, 7, "Boreplan$Machine", tyX1, rfl, by decide, uc_X1, tyX1_ok, nmX1, uw_355, Or.inl rfl, rfl, (fun _ => rfl), (fun h => by cases h)⟩
theorem uw_358 : Cond.fieldLink "Boreplan" 62 "Boreplan$Machine" "broken" "Z" ∈ bp_UW := bp_uw 358 (by decide +kernel) (by decide +kernel)
theorem fl_X5_62 : bp_FL RX5 62 1 3 (.boolean) (some false) := ⟨RX1, TX1, 7, "Boreplan$Machine", tyX1, rfl, by decide, uc_X1, tyX1_ok, nmX1, uw_358, Or.inl rfl, rfl, (fun _ => rfl), (fun h => by cases h)⟩
theorem uw_360 : Cond.fieldLink "Boreplan" 66 "Boreplan$Machine" "brokenFrom" "I" ∈ bp_UW := bp_uw 360 (by decide +kernel) (by decide +kernel)
theorem fl_X5_66 : bp_FL RX5 66 1 4 (.int) (some false) := ⟨RX1, TX1, 7, "Boreplan$Machine", tyX1, rfl, by decide, uc_X1, tyX1_ok, nmX1, uw_360, Or.inl rfl, rfl, (fun _ => rfl), (fun h => by cases h)⟩
theorem uw_362 : Cond.fieldLink "Boreplan" 69 "Boreplan$Machine" "brokenTo" "I" ∈ bp_UW := bp_uw 362 (by decide +kernel) (by decide +kernel)
theorem fl_X5_69 : bp_FL RX5 69 1 5 (.int) (some false) := ⟨RX1, TX1, 7, "Boreplan$Machine", tyX1, rfl, by decide, uc_X1, tyX1_ok, nmX1, uw_362, Or.inl rfl, rfl, (fun _ => rfl), (fun h => by cases h)⟩
theorem uw_437 : Cond.methodLink "Boreplan" 72 ⟨"Boreplan$Shop", "timeAll", "()Z"⟩ ∈ bp_UW := bp_uw 437 (by decide +kernel) (by decide +kernel)
theorem ml_X5_72 : bp_MV RX5 72 mX4_timeAll 0 RX4 := ⟨⟨uw_437, uw_47, cw_X4_timeAll, ⟨by decide, by decide⟩, by decide +kernel⟩, rfl, uw_438, uw_439⟩
theorem uw_139 : Cond.fieldLink "Boreplan" 76 "Boreplan$Shop" "span" "I" ∈ bp_UW := bp_uw 139 (by decide +kernel) (by decide +kernel)
theorem fl_X5_76 : bp_FL RX5 76 4 5 (.int) (some false) := ⟨RX4, TX4, 6, "Boreplan$Shop", tyX4, rfl, by decide, uc_X4, tyX4_ok, nmX4, uw_139, Or.inl rfl, rfl, (fun _ => rfl), (fun h => by cases h)⟩
theorem uw_132 : Cond.fieldLink "Boreplan" 81 "Boreplan$Shop" "jobs" "Ljava/util/ArrayList;" ∈ bp_UW := bp_uw 132 (by decide +kernel) (by decide +kernel)
theorem fl_X5_81 : bp_FL RX5 81 4 1 (.object "java/util/ArrayList") (none) := ⟨RX4, TX4, 6, "Boreplan$Shop", tyX4, rfl, by decide, uc_X4, tyX4_ok, nmX4, uw_132, Or.inl rfl, rfl, (fun h => by cases h), (fun h => by cases h)⟩
theorem uw_479 : Cond.classLink "Boreplan" 86 "Boreplan$Job" ∈ bp_UW := bp_uw 479 (by decide +kernel) (by decide +kernel)
theorem uw_480 : Cond.instantiable "Boreplan$Job" 5 ∈ bp_UW := bp_uw 480 (by decide +kernel) (by decide +kernel)
theorem uw_66 : Cond.initialized "Boreplan$Job" ∈ bp_UW := bp_uw 66 (by decide +kernel) (by decide +kernel)
theorem nw_X5_86 : bp_NW RX5 86 0 5 tyX0 := ⟨RX0, TX0, rfl, uc_X0, tyX0_ok, uw_479, uw_480, uw_66⟩
theorem uw_481 : Cond.methodLink "Boreplan" 88 ⟨"Boreplan$Job", "<init>", "(II)V"⟩ ∈ bp_UW := bp_uw 481 (by decide +kernel) (by decide +kernel)
theorem uw_482 : Cond.instanceMethod ⟨"Boreplan$Job", "<init>", "(II)V"⟩ ∈ bp_UW := bp_uw 482 (by decide +kernel) (by decide +kernel)
theorem ml_X5_88 : bp_MI RX5 88 mX0_init 2 := ⟨⟨uw_481, uw_66, cw_X0_init, ⟨by decide, by decide⟩, by decide +kernel⟩, rfl, rfl, rfl, uw_482⟩
theorem uw_515 : Cond.methodLink "Boreplan" 91 ⟨"Boreplan", "knownJob", "(I)LBoreplan$Job;"⟩ ∈ bp_UW := bp_uw 515 (by decide +kernel) (by decide +kernel)
theorem uw_517 : Cond.instanceMethod ⟨"Boreplan", "knownJob", "(I)LBoreplan$Job;"⟩ ∈ bp_UW := bp_uw 517 (by decide +kernel) (by decide +kernel)
theorem uw_11 : Cond.selects "Boreplan" ⟨"Boreplan", "knownJob", "(I)LBoreplan$Job;"⟩ ⟨"Boreplan", "knownJob", "(I)LBoreplan$Job;"⟩ ∈ bp_UW := bp_uw 11 (by decide +kernel) (by decide +kernel)
theorem ml_X5_91 : bp_MV RX5 91 mX5_knownJob 1 RX5 := ⟨⟨uw_515, uw_46, cw_X5_knownJob, ⟨by decide, by decide⟩, by decide +kernel⟩, rfl, uw_517, uw_11⟩
theorem uw_492 : Cond.fieldLink "Boreplan" 101 "Boreplan$Job" "operations" "Ljava/util/ArrayList;" ∈ bp_UW := bp_uw 492 (by decide +kernel) (by decide +kernel)
theorem fl_X5_101 : bp_FL RX5 101 0 2 (.object "java/util/ArrayList") (none) := ⟨RX0, TX0, 5, "Boreplan$Job", tyX0, rfl, by decide, uc_X0, tyX0_ok, nmX0, uw_492, Or.inl rfl, rfl, (fun h => by cases h), (fun h => by cases h)⟩
theorem uw_494 : Cond.fieldLink "Boreplan" 106 "Boreplan$Job" "isPlaced" "Z" ∈ bp_UW := bp_uw 494 (by decide +kernel) (by decide +kernel)
theorem fl_X5_106 : bp_FL RX5 106 0 3 (.boolean) (some false) := ⟨RX0, TX0, 5, "Boreplan$Job", tyX0, rfl, by decide, uc_X0, tyX0_ok, nmX0, uw_494, Or.inl rfl, rfl, (fun _ => rfl), (fun h => by cases h)⟩
theorem uw_525 : Cond.methodLink "Boreplan" 111 ⟨"java/lang/Integer", "bitCount", "(I)I"⟩ ∈ bp_UW := bp_uw 525 (by decide +kernel) (by decide +kernel)
theorem ml_X5_111 : bp_MS RX5 111 mJ6_bitCount_0f7a4 1 := ⟨⟨uw_525, uw_68, cw_J6_bitCount_0f7a4, ⟨by decide, by decide⟩, by decide +kernel⟩, uw_526⟩
theorem uw_532 : Cond.methodLink "Boreplan" 119 ⟨"Boreplan$Job", "append", "(LBoreplan$Machine;III)I"⟩ ∈ bp_UW := bp_uw 532 (by decide +kernel) (by decide +kernel)
theorem uw_533 : Cond.instanceMethod ⟨"Boreplan$Job", "append", "(LBoreplan$Machine;III)I"⟩ ∈ bp_UW := bp_uw 533 (by decide +kernel) (by decide +kernel)
theorem uw_534 : Cond.selects "Boreplan$Job" ⟨"Boreplan$Job", "append", "(LBoreplan$Machine;III)I"⟩ ⟨"Boreplan$Job", "append", "(LBoreplan$Machine;III)I"⟩ ∈ bp_UW := bp_uw 534 (by decide +kernel) (by decide +kernel)
theorem ml_X5_119 : bp_MV RX5 119 mX0_append 4 RX0 := ⟨⟨uw_532, uw_66, cw_X0_append, ⟨by decide, by decide⟩, by decide +kernel⟩, rfl, uw_533, uw_534⟩
theorem uw_134 : Cond.fieldLink "Boreplan" 130 "Boreplan$Shop" "table" "LBoreplan$Setups;" ∈ bp_UW := bp_uw 134 (by decide +kernel) (by decide +kernel)
theorem fl_X5_130 : bp_FL RX5 130 4 2 (.object "Boreplan$Setups") (none) := ⟨RX4, TX4, 6, "Boreplan$Shop", tyX4, rfl, by decide, uc_X4, tyX4_ok, nmX4, uw_134, Or.inl rfl, rfl, (fun h => by cases h), (fun h => by cases h)⟩
theorem uw_124 : Cond.fieldLink "Boreplan" 134 "Boreplan$Setups" "minutes" "[[I" ∈ bp_UW := bp_uw 124 (by decide +kernel) (by decide +kernel)
theorem fl_X5_134 : bp_FL RX5 134 3 0 (.array (.array .int)) (none) := ⟨RX3, TX3, 1, "Boreplan$Setups", tyX3, rfl, by decide, uc_X3, tyX3_ok, nmX3, uw_124, Or.inl rfl, rfl, (fun h => by cases h), (fun h => by cases h)⟩
theorem uw_623 : Cond.methodLink "Boreplan" 140 ⟨"Boreplan", "waitingJob", "(I)LBoreplan$Job;"⟩ ∈ bp_UW := bp_uw 623 (by decide +kernel) (by decide +kernel)
theorem uw_625 : Cond.instanceMethod ⟨"Boreplan", "waitingJob", "(I)LBoreplan$Job;"⟩ ∈ bp_UW := bp_uw 625 (by decide +kernel) (by decide +kernel)
theorem uw_12 : Cond.selects "Boreplan" ⟨"Boreplan", "waitingJob", "(I)LBoreplan$Job;"⟩ ⟨"Boreplan", "waitingJob", "(I)LBoreplan$Job;"⟩ ∈ bp_UW := bp_uw 12 (by decide +kernel) (by decide +kernel)
theorem ml_X5_140 : bp_MV RX5 140 mX5_waitingJob 1 RX5 := ⟨⟨uw_623, uw_46, cw_X5_waitingJob, ⟨by decide, by decide⟩, by decide +kernel⟩, rfl, uw_625, uw_12⟩
theorem uw_410 : Cond.methodLink "Boreplan" 143 ⟨"java/util/ArrayList", "get", "(I)Ljava/lang/Object;"⟩ ∈ bp_UW := bp_uw 410 (by decide +kernel) (by decide +kernel)
theorem ml_X5_143 : bp_MV RX5 143 mJx4a65c_get_915e3 1 RJx4a65c := ⟨⟨uw_410, uw_50, cw_Jx4a65c_get_915e3, ⟨by decide, by decide⟩, by decide +kernel⟩, rfl, uw_182, uw_183⟩
theorem uw_632 : Cond.classLink "Boreplan" 147 "Boreplan$Operation" ∈ bp_UW := bp_uw 632 (by decide +kernel) (by decide +kernel)
theorem cl_X5_147 : Cond.classLink "Boreplan" 147 "Boreplan$Operation" ∈ bp_UW := uw_632
theorem uw_550 : Cond.fieldLink "Boreplan" 149 "Boreplan$Operation" "machine" "LBoreplan$Machine;" ∈ bp_UW := bp_uw 550 (by decide +kernel) (by decide +kernel)
theorem fl_X5_149 : bp_FL RX5 149 2 2 (.object "Boreplan$Machine") (none) := ⟨RX2, TX2, 14, "Boreplan$Operation", tyX2, rfl, by decide, uc_X2, tyX2_ok, nmX2, uw_550, Or.inl rfl, rfl, (fun h => by cases h), (fun h => by cases h)⟩
theorem uw_353 : Cond.fieldLink "Boreplan" 153 "Boreplan$Machine" "row" "Ljava/util/ArrayList;" ∈ bp_UW := bp_uw 353 (by decide +kernel) (by decide +kernel)
theorem fl_X5_153 : bp_FL RX5 153 1 0 (.object "java/util/ArrayList") (none) := ⟨RX1, TX1, 7, "Boreplan$Machine", tyX1, rfl, by decide, uc_X1, tyX1_ok, nmX1, uw_353, Or.inl rfl, rfl, (fun h => by cases h), (fun h => by cases h)⟩
theorem uw_633 : Cond.methodLink "Boreplan" 156 ⟨"Boreplan$Machine", "insert", "(LBoreplan$Operation;I)V"⟩ ∈ bp_UW := bp_uw 633 (by decide +kernel) (by decide +kernel)
theorem ml_X5_156 : bp_MV RX5 156 mX1_insert 2 RX1 := ⟨⟨uw_633, uw_57, cw_X1_insert, ⟨by decide, by decide⟩, by decide +kernel⟩, rfl, uw_634, uw_635⟩
theorem uw_897 : Cond.methodLink "Boreplan" 160 ⟨"Boreplan$Shop", "insertAtBestPlace", "(LBoreplan$Operation;)V"⟩ ∈ bp_UW := bp_uw 897 (by decide +kernel) (by decide +kernel)
theorem uw_898 : Cond.instanceMethod ⟨"Boreplan$Shop", "insertAtBestPlace", "(LBoreplan$Operation;)V"⟩ ∈ bp_UW := bp_uw 898 (by decide +kernel) (by decide +kernel)
theorem uw_899 : Cond.selects "Boreplan$Shop" ⟨"Boreplan$Shop", "insertAtBestPlace", "(LBoreplan$Operation;)V"⟩ ⟨"Boreplan$Shop", "insertAtBestPlace", "(LBoreplan$Operation;)V"⟩ ∈ bp_UW := bp_uw 899 (by decide +kernel) (by decide +kernel)
theorem ml_X5_160 : bp_MV RX5 160 mX4_insertAtBestPlace 1 RX4 := ⟨⟨uw_897, uw_47, cw_X4_insertAtBestPlace, ⟨by decide, by decide⟩, by decide +kernel⟩, rfl, uw_898, uw_899⟩
theorem uw_923 : Cond.methodLink "Boreplan" 164 ⟨"Boreplan", "placedJob", "(I)LBoreplan$Job;"⟩ ∈ bp_UW := bp_uw 923 (by decide +kernel) (by decide +kernel)
theorem uw_925 : Cond.instanceMethod ⟨"Boreplan", "placedJob", "(I)LBoreplan$Job;"⟩ ∈ bp_UW := bp_uw 925 (by decide +kernel) (by decide +kernel)
theorem uw_17 : Cond.selects "Boreplan" ⟨"Boreplan", "placedJob", "(I)LBoreplan$Job;"⟩ ⟨"Boreplan", "placedJob", "(I)LBoreplan$Job;"⟩ ∈ bp_UW := bp_uw 17 (by decide +kernel) (by decide +kernel)
theorem ml_X5_164 : bp_MV RX5 164 mX5_placedJob 1 RX5 := ⟨⟨uw_923, uw_46, cw_X5_placedJob, ⟨by decide, by decide⟩, by decide +kernel⟩, rfl, uw_925, uw_17⟩
theorem cl_X5_33 : Cond.classLink "Boreplan" 33 "Boreplan$Machine" ∈ bp_UW := uw_342
theorem uw_928 : Cond.methodLink "Boreplan" 167 ⟨"Boreplan$Machine", "takeOutAllOf", "(LBoreplan$Job;)V"⟩ ∈ bp_UW := bp_uw 928 (by decide +kernel) (by decide +kernel)
theorem uw_929 : Cond.instanceMethod ⟨"Boreplan$Machine", "takeOutAllOf", "(LBoreplan$Job;)V"⟩ ∈ bp_UW := bp_uw 929 (by decide +kernel) (by decide +kernel)
theorem uw_930 : Cond.selects "Boreplan$Machine" ⟨"Boreplan$Machine", "takeOutAllOf", "(LBoreplan$Job;)V"⟩ ⟨"Boreplan$Machine", "takeOutAllOf", "(LBoreplan$Job;)V"⟩ ∈ bp_UW := bp_uw 930 (by decide +kernel) (by decide +kernel)
theorem ml_X5_167 : bp_MV RX5 167 mX1_takeOutAllOf 1 RX1 := ⟨⟨uw_928, uw_57, cw_X1_takeOutAllOf, ⟨by decide, by decide⟩, by decide +kernel⟩, rfl, uw_929, uw_930⟩
theorem uw_940 : Cond.methodLink "Boreplan" 173 ⟨"Boreplan$Machine", "exchange", "(I)V"⟩ ∈ bp_UW := bp_uw 940 (by decide +kernel) (by decide +kernel)
theorem uw_941 : Cond.instanceMethod ⟨"Boreplan$Machine", "exchange", "(I)V"⟩ ∈ bp_UW := bp_uw 941 (by decide +kernel) (by decide +kernel)
theorem uw_942 : Cond.selects "Boreplan$Machine" ⟨"Boreplan$Machine", "exchange", "(I)V"⟩ ⟨"Boreplan$Machine", "exchange", "(I)V"⟩ ∈ bp_UW := bp_uw 942 (by decide +kernel) (by decide +kernel)
theorem ml_X5_173 : bp_MV RX5 173 mX1_exchange 1 RX1 := ⟨⟨uw_940, uw_57, cw_X1_exchange, ⟨by decide, by decide⟩, by decide +kernel⟩, rfl, uw_941, uw_942⟩
theorem uw_964 : Cond.methodLink "Boreplan" 181 ⟨"Boreplan$Operation", "code", "()I"⟩ ∈ bp_UW := bp_uw 964 (by decide +kernel) (by decide +kernel)
theorem uw_965 : Cond.instanceMethod ⟨"Boreplan$Operation", "code", "()I"⟩ ∈ bp_UW := bp_uw 965 (by decide +kernel) (by decide +kernel)
theorem uw_966 : Cond.selects "Boreplan$Operation" ⟨"Boreplan$Operation", "code", "()I"⟩ ⟨"Boreplan$Operation", "code", "()I"⟩ ∈ bp_UW := bp_uw 966 (by decide +kernel) (by decide +kernel)
theorem ml_X5_181 : bp_MV RX5 181 mX2_code 0 RX2 := ⟨⟨uw_964, uw_69, cw_X2_code, ⟨by decide, by decide⟩, by decide +kernel⟩, rfl, uw_965, uw_966⟩
theorem uw_975 : Cond.methodLink "Boreplan" 184 ⟨"Boreplan", "placedOperation", "(II)LBoreplan$Operation;"⟩ ∈ bp_UW := bp_uw 975 (by decide +kernel) (by decide +kernel)
theorem uw_977 : Cond.instanceMethod ⟨"Boreplan", "placedOperation", "(II)LBoreplan$Operation;"⟩ ∈ bp_UW := bp_uw 977 (by decide +kernel) (by decide +kernel)
theorem uw_18 : Cond.selects "Boreplan" ⟨"Boreplan", "placedOperation", "(II)LBoreplan$Operation;"⟩ ⟨"Boreplan", "placedOperation", "(II)LBoreplan$Operation;"⟩ ∈ bp_UW := bp_uw 18 (by decide +kernel) (by decide +kernel)
theorem ml_X5_184 : bp_MV RX5 184 mX5_placedOperation 2 RX5 := ⟨⟨uw_975, uw_46, cw_X5_placedOperation, ⟨by decide, by decide⟩, by decide +kernel⟩, rfl, uw_977, uw_18⟩
theorem uw_567 : Cond.fieldLink "Boreplan" 188 "Boreplan$Operation" "start" "I" ∈ bp_UW := bp_uw 567 (by decide +kernel) (by decide +kernel)
theorem fl_X5_188 : bp_FL RX5 188 2 10 (.int) (some false) := ⟨RX2, TX2, 14, "Boreplan$Operation", tyX2, rfl, by decide, uc_X2, tyX2_ok, nmX2, uw_567, Or.inl rfl, rfl, (fun _ => rfl), (fun h => by cases h)⟩
theorem uw_987 : Cond.methodLink "Boreplan" 191 ⟨"Boreplan$Shop", "putLaterInRounds", "()V"⟩ ∈ bp_UW := bp_uw 987 (by decide +kernel) (by decide +kernel)
theorem uw_988 : Cond.instanceMethod ⟨"Boreplan$Shop", "putLaterInRounds", "()V"⟩ ∈ bp_UW := bp_uw 988 (by decide +kernel) (by decide +kernel)
theorem uw_989 : Cond.selects "Boreplan$Shop" ⟨"Boreplan$Shop", "putLaterInRounds", "()V"⟩ ⟨"Boreplan$Shop", "putLaterInRounds", "()V"⟩ ∈ bp_UW := bp_uw 989 (by decide +kernel) (by decide +kernel)
theorem ml_X5_191 : bp_MV RX5 191 mX4_putLaterInRounds 0 RX4 := ⟨⟨uw_987, uw_47, cw_X4_putLaterInRounds, ⟨by decide, by decide⟩, by decide +kernel⟩, rfl, uw_988, uw_989⟩
theorem uw_571 : Cond.fieldLink "Boreplan" 194 "Boreplan$Operation" "startInRounds" "I" ∈ bp_UW := bp_uw 571 (by decide +kernel) (by decide +kernel)
theorem fl_X5_194 : bp_FL RX5 194 2 12 (.int) (some false) := ⟨RX2, TX2, 14, "Boreplan$Operation", tyX2, rfl, by decide, uc_X2, tyX2_ok, nmX2, uw_571, Or.inl rfl, rfl, (fun _ => rfl), (fun h => by cases h)⟩
theorem uw_569 : Cond.fieldLink "Boreplan" 197 "Boreplan$Operation" "finish" "I" ∈ bp_UW := bp_uw 569 (by decide +kernel) (by decide +kernel)
theorem fl_X5_197 : bp_FL RX5 197 2 11 (.int) (some false) := ⟨RX2, TX2, 14, "Boreplan$Operation", tyX2, rfl, by decide, uc_X2, tyX2_ok, nmX2, uw_569, Or.inl rfl, rfl, (fun _ => rfl), (fun h => by cases h)⟩
theorem uw_490 : Cond.fieldLink "Boreplan" 200 "Boreplan$Job" "due" "I" ∈ bp_UW := bp_uw 490 (by decide +kernel) (by decide +kernel)
theorem fl_X5_200 : bp_FL RX5 200 0 1 (.int) (none) := ⟨RX0, TX0, 5, "Boreplan$Job", tyX0, rfl, by decide, uc_X0, tyX0_ok, nmX0, uw_490, Or.inl rfl, rfl, (fun h => by cases h), (fun h => by cases h)⟩
theorem uw_1006 : Cond.methodLink "Boreplan" 203 ⟨"java/lang/Math", "max", "(II)I"⟩ ∈ bp_UW := bp_uw 1006 (by decide +kernel) (by decide +kernel)
theorem ml_X5_203 : Cond.methodLink "Boreplan" 203 ⟨"java/lang/Math", "max", "(II)I"⟩ ∈ bp_UW := uw_1006
theorem uw_1014 : Cond.methodLink "Boreplan" 209 ⟨"Boreplan$Shop", "findLatestStarts", "()V"⟩ ∈ bp_UW := bp_uw 1014 (by decide +kernel) (by decide +kernel)
theorem uw_1015 : Cond.instanceMethod ⟨"Boreplan$Shop", "findLatestStarts", "()V"⟩ ∈ bp_UW := bp_uw 1015 (by decide +kernel) (by decide +kernel)
theorem uw_1016 : Cond.selects "Boreplan$Shop" ⟨"Boreplan$Shop", "findLatestStarts", "()V"⟩ ⟨"Boreplan$Shop", "findLatestStarts", "()V"⟩ ∈ bp_UW := bp_uw 1016 (by decide +kernel) (by decide +kernel)
theorem ml_X5_209 : bp_MV RX5 209 mX4_findLatestStarts 0 RX4 := ⟨⟨uw_1014, uw_47, cw_X4_findLatestStarts, ⟨by decide, by decide⟩, by decide +kernel⟩, rfl, uw_1015, uw_1016⟩
theorem uw_573 : Cond.fieldLink "Boreplan" 212 "Boreplan$Operation" "latestStart" "I" ∈ bp_UW := bp_uw 573 (by decide +kernel) (by decide +kernel)
theorem fl_X5_212 : bp_FL RX5 212 2 13 (.int) (some false) := ⟨RX2, TX2, 14, "Boreplan$Operation", tyX2, rfl, by decide, uc_X2, tyX2_ok, nmX2, uw_573, Or.inl rfl, rfl, (fun _ => rfl), (fun h => by cases h)⟩
theorem uw_165 : Cond.methodLink "Boreplan" 215 ⟨"Boreplan$Shop", "findPath", "()V"⟩ ∈ bp_UW := bp_uw 165 (by decide +kernel) (by decide +kernel)
theorem uw_166 : Cond.instanceMethod ⟨"Boreplan$Shop", "findPath", "()V"⟩ ∈ bp_UW := bp_uw 166 (by decide +kernel) (by decide +kernel)
theorem uw_167 : Cond.selects "Boreplan$Shop" ⟨"Boreplan$Shop", "findPath", "()V"⟩ ⟨"Boreplan$Shop", "findPath", "()V"⟩ ∈ bp_UW := bp_uw 167 (by decide +kernel) (by decide +kernel)
theorem ml_X5_215 : bp_MV RX5 215 mX4_findPath 0 RX4 := ⟨⟨uw_165, uw_47, cw_X4_findPath, ⟨by decide, by decide⟩, by decide +kernel⟩, rfl, uw_166, uw_167⟩
theorem uw_137 : Cond.fieldLink "Boreplan" 218 "Boreplan$Shop" "path" "Ljava/util/ArrayList;" ∈ bp_UW := bp_uw 137 (by decide +kernel) (by decide +kernel)
theorem fl_X5_218 : bp_FL RX5 218 4 4 (.object "java/util/ArrayList") (none) := ⟨RX4, TX4, 6, "Boreplan$Shop", tyX4, rfl, by decide, uc_X4, tyX4_ok, nmX4, uw_137, Or.inl rfl, rfl, (fun h => by cases h), (fun h => by cases h)⟩
theorem uw_1041 : Cond.methodLink "Boreplan" 221 ⟨"Boreplan$Setups", "sumOf", "(LBoreplan$Machine;)I"⟩ ∈ bp_UW := bp_uw 1041 (by decide +kernel) (by decide +kernel)
theorem uw_1042 : Cond.instanceMethod ⟨"Boreplan$Setups", "sumOf", "(LBoreplan$Machine;)I"⟩ ∈ bp_UW := bp_uw 1042 (by decide +kernel) (by decide +kernel)
theorem uw_1043 : Cond.selects "Boreplan$Setups" ⟨"Boreplan$Setups", "sumOf", "(LBoreplan$Machine;)I"⟩ ⟨"Boreplan$Setups", "sumOf", "(LBoreplan$Machine;)I"⟩ ∈ bp_UW := bp_uw 1043 (by decide +kernel) (by decide +kernel)
theorem ml_X5_221 : bp_MV RX5 221 mX3_sumOf 1 RX3 := ⟨⟨uw_1041, uw_51, cw_X3_sumOf, ⟨by decide, by decide⟩, by decide +kernel⟩, rfl, uw_1042, uw_1043⟩
theorem uw_1056 : Cond.methodLink "Boreplan" 225 ⟨"Boreplan$Machine", "leastLoads", "()I"⟩ ∈ bp_UW := bp_uw 1056 (by decide +kernel) (by decide +kernel)
theorem uw_1057 : Cond.instanceMethod ⟨"Boreplan$Machine", "leastLoads", "()I"⟩ ∈ bp_UW := bp_uw 1057 (by decide +kernel) (by decide +kernel)
theorem uw_1058 : Cond.selects "Boreplan$Machine" ⟨"Boreplan$Machine", "leastLoads", "()I"⟩ ⟨"Boreplan$Machine", "leastLoads", "()I"⟩ ∈ bp_UW := bp_uw 1058 (by decide +kernel) (by decide +kernel)
theorem ml_X5_225 : bp_MV RX5 225 mX1_leastLoads 0 RX1 := ⟨⟨uw_1056, uw_57, cw_X1_leastLoads, ⟨by decide, by decide⟩, by decide +kernel⟩, rfl, uw_1057, uw_1058⟩
theorem cl_X5_86 : Cond.classLink "Boreplan" 86 "Boreplan$Job" ∈ bp_UW := uw_479
theorem uw_627 : Cond.methodLink "Boreplan" 234 ⟨"java/util/ArrayList", "isEmpty", "()Z"⟩ ∈ bp_UW := bp_uw 627 (by decide +kernel) (by decide +kernel)
theorem uw_628 : Cond.instanceMethod ⟨"java/util/ArrayList", "isEmpty", "()Z"⟩ ∈ bp_UW := bp_uw 628 (by decide +kernel) (by decide +kernel)
theorem uw_629 : Cond.selects "java/util/ArrayList" ⟨"java/util/ArrayList", "isEmpty", "()Z"⟩ ⟨"java/util/ArrayList", "isEmpty", "()Z"⟩ ∈ bp_UW := bp_uw 629 (by decide +kernel) (by decide +kernel)
theorem ml_X5_234 : bp_MV RX5 234 mJx4a65c_isEmpty_aae02 0 RJx4a65c := ⟨⟨uw_627, uw_50, cw_Jx4a65c_isEmpty_aae02, ⟨by decide, by decide⟩, by decide +kernel⟩, rfl, uw_628, uw_629⟩
theorem uw_1070 : Cond.methodLink "BoreplanModel" 1 ⟨"java/lang/Object", "<init>", "()V"⟩ ∈ bp_UW := bp_uw 1070 (by decide +kernel) (by decide +kernel)
theorem ml_X6_1 : Cond.methodLink "BoreplanModel" 1 ⟨"java/lang/Object", "<init>", "()V"⟩ ∈ bp_UW := uw_1070
theorem uw_1073 : Cond.fieldLink "BoreplanModel" 7 "BoreplanModel" "capacities" "[I" ∈ bp_UW := bp_uw 1073 (by decide +kernel) (by decide +kernel)
theorem fl_X6_7 : bp_FL RX6 7 6 2 (.array .int) (some true) := ⟨RX6, TX6, 25, "BoreplanModel", tyX6, rfl, by decide, uc_X6, tyX6_ok, nmX6, uw_1073, Or.inl rfl, rfl, (fun h => by cases h), (fun _ => ⟨rfl, rfl⟩)⟩
theorem uw_1074 : Cond.fieldLink "BoreplanModel" 13 "BoreplanModel" "breaks" "[I" ∈ bp_UW := bp_uw 1074 (by decide +kernel) (by decide +kernel)
theorem fl_X6_13 : bp_FL RX6 13 6 3 (.array .int) (some true) := ⟨RX6, TX6, 25, "BoreplanModel", tyX6, rfl, by decide, uc_X6, tyX6_ok, nmX6, uw_1074, Or.inl rfl, rfl, (fun h => by cases h), (fun _ => ⟨rfl, rfl⟩)⟩
theorem uw_1075 : Cond.fieldLink "BoreplanModel" 16 "BoreplanModel" "mends" "[I" ∈ bp_UW := bp_uw 1075 (by decide +kernel) (by decide +kernel)
theorem fl_X6_16 : bp_FL RX6 16 6 4 (.array .int) (some true) := ⟨RX6, TX6, 25, "BoreplanModel", tyX6, rfl, by decide, uc_X6, tyX6_ok, nmX6, uw_1075, Or.inl rfl, rfl, (fun h => by cases h), (fun _ => ⟨rfl, rfl⟩)⟩
theorem uw_1076 : Cond.fieldLink "BoreplanModel" 19 "BoreplanModel" "rowMany" "[I" ∈ bp_UW := bp_uw 1076 (by decide +kernel) (by decide +kernel)
theorem fl_X6_19 : bp_FL RX6 19 6 5 (.array .int) (some true) := ⟨RX6, TX6, 25, "BoreplanModel", tyX6, rfl, by decide, uc_X6, tyX6_ok, nmX6, uw_1076, Or.inl rfl, rfl, (fun h => by cases h), (fun _ => ⟨rfl, rfl⟩)⟩
theorem uw_1077 : Cond.fieldLink "BoreplanModel" 22 "BoreplanModel" "row" "[I" ∈ bp_UW := bp_uw 1077 (by decide +kernel) (by decide +kernel)
theorem fl_X6_22 : bp_FL RX6 22 6 6 (.array .int) (some true) := ⟨RX6, TX6, 25, "BoreplanModel", tyX6, rfl, by decide, uc_X6, tyX6_ok, nmX6, uw_1077, Or.inl rfl, rfl, (fun h => by cases h), (fun _ => ⟨rfl, rfl⟩)⟩
theorem uw_1079 : Cond.fieldLink "BoreplanModel" 25 "BoreplanModel" "dues" "[I" ∈ bp_UW := bp_uw 1079 (by decide +kernel) (by decide +kernel)
theorem fl_X6_25 : bp_FL RX6 25 6 8 (.array .int) (some true) := ⟨RX6, TX6, 25, "BoreplanModel", tyX6, rfl, by decide, uc_X6, tyX6_ok, nmX6, uw_1079, Or.inl rfl, rfl, (fun h => by cases h), (fun _ => ⟨rfl, rfl⟩)⟩
theorem uw_1080 : Cond.fieldLink "BoreplanModel" 28 "BoreplanModel" "partMany" "[I" ∈ bp_UW := bp_uw 1080 (by decide +kernel) (by decide +kernel)
theorem fl_X6_28 : bp_FL RX6 28 6 9 (.array .int) (some true) := ⟨RX6, TX6, 25, "BoreplanModel", tyX6, rfl, by decide, uc_X6, tyX6_ok, nmX6, uw_1080, Or.inl rfl, rfl, (fun h => by cases h), (fun _ => ⟨rfl, rfl⟩)⟩
theorem uw_1081 : Cond.fieldLink "BoreplanModel" 31 "BoreplanModel" "isPlaced" "[Z" ∈ bp_UW := bp_uw 1081 (by decide +kernel) (by decide +kernel)
theorem fl_X6_31 : bp_FL RX6 31 6 10 (.array .boolean) (some true) := ⟨RX6, TX6, 25, "BoreplanModel", tyX6, rfl, by decide, uc_X6, tyX6_ok, nmX6, uw_1081, Or.inl rfl, rfl, (fun h => by cases h), (fun _ => ⟨rfl, rfl⟩)⟩
theorem uw_1082 : Cond.fieldLink "BoreplanModel" 35 "BoreplanModel" "machines" "[I" ∈ bp_UW := bp_uw 1082 (by decide +kernel) (by decide +kernel)
theorem fl_X6_35 : bp_FL RX6 35 6 11 (.array .int) (some true) := ⟨RX6, TX6, 25, "BoreplanModel", tyX6, rfl, by decide, uc_X6, tyX6_ok, nmX6, uw_1082, Or.inl rfl, rfl, (fun h => by cases h), (fun _ => ⟨rfl, rfl⟩)⟩
theorem uw_1083 : Cond.fieldLink "BoreplanModel" 38 "BoreplanModel" "lengths" "[I" ∈ bp_UW := bp_uw 1083 (by decide +kernel) (by decide +kernel)
theorem fl_X6_38 : bp_FL RX6 38 6 12 (.array .int) (some true) := ⟨RX6, TX6, 25, "BoreplanModel", tyX6, rfl, by decide, uc_X6, tyX6_ok, nmX6, uw_1083, Or.inl rfl, rfl, (fun h => by cases h), (fun _ => ⟨rfl, rfl⟩)⟩
theorem uw_1084 : Cond.fieldLink "BoreplanModel" 41 "BoreplanModel" "families" "[I" ∈ bp_UW := bp_uw 1084 (by decide +kernel) (by decide +kernel)
theorem fl_X6_41 : bp_FL RX6 41 6 13 (.array .int) (some true) := ⟨RX6, TX6, 25, "BoreplanModel", tyX6, rfl, by decide, uc_X6, tyX6_ok, nmX6, uw_1084, Or.inl rfl, rfl, (fun h => by cases h), (fun _ => ⟨rfl, rfl⟩)⟩
theorem uw_1085 : Cond.fieldLink "BoreplanModel" 44 "BoreplanModel" "tools" "[I" ∈ bp_UW := bp_uw 1085 (by decide +kernel) (by decide +kernel)
theorem fl_X6_44 : bp_FL RX6 44 6 14 (.array .int) (some true) := ⟨RX6, TX6, 25, "BoreplanModel", tyX6, rfl, by decide, uc_X6, tyX6_ok, nmX6, uw_1085, Or.inl rfl, rfl, (fun h => by cases h), (fun _ => ⟨rfl, rfl⟩)⟩
theorem uw_1086 : Cond.fieldLink "BoreplanModel" 47 "BoreplanModel" "setups" "[I" ∈ bp_UW := bp_uw 1086 (by decide +kernel) (by decide +kernel)
theorem fl_X6_47 : bp_FL RX6 47 6 15 (.array .int) (some true) := ⟨RX6, TX6, 25, "BoreplanModel", tyX6, rfl, by decide, uc_X6, tyX6_ok, nmX6, uw_1086, Or.inl rfl, rfl, (fun h => by cases h), (fun _ => ⟨rfl, rfl⟩)⟩
theorem uw_1087 : Cond.fieldLink "BoreplanModel" 50 "BoreplanModel" "isIn" "[Z" ∈ bp_UW := bp_uw 1087 (by decide +kernel) (by decide +kernel)
theorem fl_X6_50 : bp_FL RX6 50 6 16 (.array .boolean) (some true) := ⟨RX6, TX6, 25, "BoreplanModel", tyX6, rfl, by decide, uc_X6, tyX6_ok, nmX6, uw_1087, Or.inl rfl, rfl, (fun h => by cases h), (fun _ => ⟨rfl, rfl⟩)⟩
theorem uw_1088 : Cond.fieldLink "BoreplanModel" 53 "BoreplanModel" "ahead" "[I" ∈ bp_UW := bp_uw 1088 (by decide +kernel) (by decide +kernel)
theorem fl_X6_53 : bp_FL RX6 53 6 17 (.array .int) (some true) := ⟨RX6, TX6, 25, "BoreplanModel", tyX6, rfl, by decide, uc_X6, tyX6_ok, nmX6, uw_1088, Or.inl rfl, rfl, (fun h => by cases h), (fun _ => ⟨rfl, rfl⟩)⟩
theorem uw_1089 : Cond.fieldLink "BoreplanModel" 56 "BoreplanModel" "behind" "[I" ∈ bp_UW := bp_uw 1089 (by decide +kernel) (by decide +kernel)
theorem fl_X6_56 : bp_FL RX6 56 6 18 (.array .int) (some true) := ⟨RX6, TX6, 25, "BoreplanModel", tyX6, rfl, by decide, uc_X6, tyX6_ok, nmX6, uw_1089, Or.inl rfl, rfl, (fun h => by cases h), (fun _ => ⟨rfl, rfl⟩)⟩
theorem uw_1090 : Cond.fieldLink "BoreplanModel" 59 "BoreplanModel" "starts" "[I" ∈ bp_UW := bp_uw 1090 (by decide +kernel) (by decide +kernel)
theorem fl_X6_59 : bp_FL RX6 59 6 19 (.array .int) (some true) := ⟨RX6, TX6, 25, "BoreplanModel", tyX6, rfl, by decide, uc_X6, tyX6_ok, nmX6, uw_1090, Or.inl rfl, rfl, (fun h => by cases h), (fun _ => ⟨rfl, rfl⟩)⟩
theorem uw_1091 : Cond.fieldLink "BoreplanModel" 62 "BoreplanModel" "latest" "[I" ∈ bp_UW := bp_uw 1091 (by decide +kernel) (by decide +kernel)
theorem fl_X6_62 : bp_FL RX6 62 6 20 (.array .int) (some true) := ⟨RX6, TX6, 25, "BoreplanModel", tyX6, rfl, by decide, uc_X6, tyX6_ok, nmX6, uw_1091, Or.inl rfl, rfl, (fun h => by cases h), (fun _ => ⟨rfl, rfl⟩)⟩
theorem uw_1093 : Cond.fieldLink "BoreplanModel" 65 "BoreplanModel" "path" "[I" ∈ bp_UW := bp_uw 1093 (by decide +kernel) (by decide +kernel)
theorem fl_X6_65 : bp_FL RX6 65 6 22 (.array .int) (some true) := ⟨RX6, TX6, 25, "BoreplanModel", tyX6, rfl, by decide, uc_X6, tyX6_ok, nmX6, uw_1093, Or.inl rfl, rfl, (fun h => by cases h), (fun _ => ⟨rfl, rfl⟩)⟩
theorem uw_1094 : Cond.fieldLink "BoreplanModel" 68 "BoreplanModel" "costs" "[I" ∈ bp_UW := bp_uw 1094 (by decide +kernel) (by decide +kernel)
theorem fl_X6_68 : bp_FL RX6 68 6 23 (.array .int) (some true) := ⟨RX6, TX6, 25, "BoreplanModel", tyX6, rfl, by decide, uc_X6, tyX6_ok, nmX6, uw_1094, Or.inl rfl, rfl, (fun h => by cases h), (fun _ => ⟨rfl, rfl⟩)⟩
theorem uw_1095 : Cond.fieldLink "BoreplanModel" 71 "BoreplanModel" "next" "[I" ∈ bp_UW := bp_uw 1095 (by decide +kernel) (by decide +kernel)
theorem fl_X6_71 : bp_FL RX6 71 6 24 (.array .int) (some true) := ⟨RX6, TX6, 25, "BoreplanModel", tyX6, rfl, by decide, uc_X6, tyX6_ok, nmX6, uw_1095, Or.inl rfl, rfl, (fun h => by cases h), (fun _ => ⟨rfl, rfl⟩)⟩
theorem uw_1071 : Cond.fieldLink "BoreplanModel" 74 "BoreplanModel" "thrown" "I" ∈ bp_UW := bp_uw 1071 (by decide +kernel) (by decide +kernel)
theorem fl_X6_74 : bp_FL RX6 74 6 0 (.int) (some false) := ⟨RX6, TX6, 25, "BoreplanModel", tyX6, rfl, by decide, uc_X6, tyX6_ok, nmX6, uw_1071, Or.inl rfl, rfl, (fun _ => rfl), (fun h => by cases h)⟩
theorem uw_1072 : Cond.fieldLink "BoreplanModel" 78 "BoreplanModel" "machineMany" "I" ∈ bp_UW := bp_uw 1072 (by decide +kernel) (by decide +kernel)
theorem fl_X6_78 : bp_FL RX6 78 6 1 (.int) (some false) := ⟨RX6, TX6, 25, "BoreplanModel", tyX6, rfl, by decide, uc_X6, tyX6_ok, nmX6, uw_1072, Or.inl rfl, rfl, (fun _ => rfl), (fun h => by cases h)⟩
theorem uw_1164 : Cond.methodLink "BoreplanModel" 81 ⟨"BoreplanModel", "in", "(III)Z"⟩ ∈ bp_UW := bp_uw 1164 (by decide +kernel) (by decide +kernel)
theorem uw_52 : Cond.initialized "BoreplanModel" ∈ bp_UW := bp_uw 52 (by decide +kernel) (by decide +kernel)
theorem uw_1165 : Cond.static ⟨"BoreplanModel", "in", "(III)Z"⟩ ∈ bp_UW := bp_uw 1165 (by decide +kernel) (by decide +kernel)
theorem ml_X6_81 : bp_MS RX6 81 mX6_in 3 := ⟨⟨uw_1164, uw_52, cw_X6_in, ⟨by decide, by decide⟩, by decide +kernel⟩, uw_1165⟩
theorem uw_1078 : Cond.fieldLink "BoreplanModel" 85 "BoreplanModel" "jobMany" "I" ∈ bp_UW := bp_uw 1078 (by decide +kernel) (by decide +kernel)
theorem fl_X6_85 : bp_FL RX6 85 6 7 (.int) (some false) := ⟨RX6, TX6, 25, "BoreplanModel", tyX6, rfl, by decide, uc_X6, tyX6_ok, nmX6, uw_1078, Or.inl rfl, rfl, (fun _ => rfl), (fun h => by cases h)⟩
theorem uw_1190 : Cond.methodLink "BoreplanModel" 88 ⟨"BoreplanModel", "beside", "(II)I"⟩ ∈ bp_UW := bp_uw 1190 (by decide +kernel) (by decide +kernel)
theorem uw_1192 : Cond.instanceMethod ⟨"BoreplanModel", "beside", "(II)I"⟩ ∈ bp_UW := bp_uw 1192 (by decide +kernel) (by decide +kernel)
theorem uw_28 : Cond.selects "BoreplanModel" ⟨"BoreplanModel", "beside", "(II)I"⟩ ⟨"BoreplanModel", "beside", "(II)I"⟩ ∈ bp_UW := bp_uw 28 (by decide +kernel) (by decide +kernel)
theorem ml_X6_88 : bp_MV RX6 88 mX6_beside 2 RX6 := ⟨⟨uw_1190, uw_52, cw_X6_beside, ⟨by decide, by decide⟩, by decide +kernel⟩, rfl, uw_1192, uw_28⟩
theorem uw_1194 : Cond.methodLink "BoreplanModel" 92 ⟨"BoreplanModel", "finish", "(I)I"⟩ ∈ bp_UW := bp_uw 1194 (by decide +kernel) (by decide +kernel)
theorem uw_1196 : Cond.instanceMethod ⟨"BoreplanModel", "finish", "(I)I"⟩ ∈ bp_UW := bp_uw 1196 (by decide +kernel) (by decide +kernel)
theorem uw_29 : Cond.selects "BoreplanModel" ⟨"BoreplanModel", "finish", "(I)I"⟩ ⟨"BoreplanModel", "finish", "(I)I"⟩ ∈ bp_UW := bp_uw 29 (by decide +kernel) (by decide +kernel)
theorem ml_X6_92 : bp_MV RX6 92 mX6_finish 1 RX6 := ⟨⟨uw_1194, uw_52, cw_X6_finish, ⟨by decide, by decide⟩, by decide +kernel⟩, rfl, uw_1196, uw_29⟩
theorem uw_1198 : Cond.methodLink "BoreplanModel" 96 ⟨"BoreplanModel", "setup", "(II)I"⟩ ∈ bp_UW := bp_uw 1198 (by decide +kernel) (by decide +kernel)
theorem uw_1200 : Cond.instanceMethod ⟨"BoreplanModel", "setup", "(II)I"⟩ ∈ bp_UW := bp_uw 1200 (by decide +kernel) (by decide +kernel)
theorem uw_30 : Cond.selects "BoreplanModel" ⟨"BoreplanModel", "setup", "(II)I"⟩ ⟨"BoreplanModel", "setup", "(II)I"⟩ ∈ bp_UW := bp_uw 30 (by decide +kernel) (by decide +kernel)
theorem ml_X6_96 : bp_MV RX6 96 mX6_setup 2 RX6 := ⟨⟨uw_1198, uw_52, cw_X6_setup, ⟨by decide, by decide⟩, by decide +kernel⟩, rfl, uw_1200, uw_30⟩
theorem uw_1182 : Cond.methodLink "BoreplanModel" 99 ⟨"BoreplanModel", "lays", "()V"⟩ ∈ bp_UW := bp_uw 1182 (by decide +kernel) (by decide +kernel)
theorem uw_1184 : Cond.instanceMethod ⟨"BoreplanModel", "lays", "()V"⟩ ∈ bp_UW := bp_uw 1184 (by decide +kernel) (by decide +kernel)
theorem uw_26 : Cond.selects "BoreplanModel" ⟨"BoreplanModel", "lays", "()V"⟩ ⟨"BoreplanModel", "lays", "()V"⟩ ∈ bp_UW := bp_uw 26 (by decide +kernel) (by decide +kernel)
theorem ml_X6_99 : bp_MV RX6 99 mX6_lays 0 RX6 := ⟨⟨uw_1182, uw_52, cw_X6_lays, ⟨by decide, by decide⟩, by decide +kernel⟩, rfl, uw_1184, uw_26⟩
theorem uw_1186 : Cond.methodLink "BoreplanModel" 102 ⟨"BoreplanModel", "waits", "(I)I"⟩ ∈ bp_UW := bp_uw 1186 (by decide +kernel) (by decide +kernel)
theorem uw_1188 : Cond.instanceMethod ⟨"BoreplanModel", "waits", "(I)I"⟩ ∈ bp_UW := bp_uw 1188 (by decide +kernel) (by decide +kernel)
theorem uw_27 : Cond.selects "BoreplanModel" ⟨"BoreplanModel", "waits", "(I)I"⟩ ⟨"BoreplanModel", "waits", "(I)I"⟩ ∈ bp_UW := bp_uw 27 (by decide +kernel) (by decide +kernel)
theorem ml_X6_102 : bp_MV RX6 102 mX6_waits 1 RX6 := ⟨⟨uw_1186, uw_52, cw_X6_waits, ⟨by decide, by decide⟩, by decide +kernel⟩, rfl, uw_1188, uw_27⟩
theorem uw_1178 : Cond.methodLink "BoreplanModel" 105 ⟨"BoreplanModel", "works", "()Z"⟩ ∈ bp_UW := bp_uw 1178 (by decide +kernel) (by decide +kernel)
theorem uw_1180 : Cond.instanceMethod ⟨"BoreplanModel", "works", "()Z"⟩ ∈ bp_UW := bp_uw 1180 (by decide +kernel) (by decide +kernel)
theorem uw_25 : Cond.selects "BoreplanModel" ⟨"BoreplanModel", "works", "()Z"⟩ ⟨"BoreplanModel", "works", "()Z"⟩ ∈ bp_UW := bp_uw 25 (by decide +kernel) (by decide +kernel)
theorem ml_X6_105 : bp_MV RX6 105 mX6_works 0 RX6 := ⟨⟨uw_1178, uw_52, cw_X6_works, ⟨by decide, by decide⟩, by decide +kernel⟩, rfl, uw_1180, uw_25⟩
theorem uw_1202 : Cond.methodLink "BoreplanModel" 109 ⟨"BoreplanModel", "spanNow", "()I"⟩ ∈ bp_UW := bp_uw 1202 (by decide +kernel) (by decide +kernel)
theorem uw_1204 : Cond.instanceMethod ⟨"BoreplanModel", "spanNow", "()I"⟩ ∈ bp_UW := bp_uw 1204 (by decide +kernel) (by decide +kernel)
theorem uw_31 : Cond.selects "BoreplanModel" ⟨"BoreplanModel", "spanNow", "()I"⟩ ⟨"BoreplanModel", "spanNow", "()I"⟩ ∈ bp_UW := bp_uw 31 (by decide +kernel) (by decide +kernel)
theorem ml_X6_109 : bp_MV RX6 109 mX6_spanNow 0 RX6 := ⟨⟨uw_1202, uw_52, cw_X6_spanNow, ⟨by decide, by decide⟩, by decide +kernel⟩, rfl, uw_1204, uw_31⟩
theorem uw_1174 : Cond.methodLink "BoreplanModel" 113 ⟨"BoreplanModel", "spanOf", "()I"⟩ ∈ bp_UW := bp_uw 1174 (by decide +kernel) (by decide +kernel)
theorem uw_1176 : Cond.instanceMethod ⟨"BoreplanModel", "spanOf", "()I"⟩ ∈ bp_UW := bp_uw 1176 (by decide +kernel) (by decide +kernel)
theorem uw_24 : Cond.selects "BoreplanModel" ⟨"BoreplanModel", "spanOf", "()I"⟩ ⟨"BoreplanModel", "spanOf", "()I"⟩ ∈ bp_UW := bp_uw 24 (by decide +kernel) (by decide +kernel)
theorem ml_X6_113 : bp_MV RX6 113 mX6_spanOf 0 RX6 := ⟨⟨uw_1174, uw_52, cw_X6_spanOf, ⟨by decide, by decide⟩, by decide +kernel⟩, rfl, uw_1176, uw_24⟩
theorem uw_1312 : Cond.constant "BoreplanModel" 116 (1000000 : Int32) ∈ bp_UW := bp_uw 1312 (by decide +kernel) (by decide +kernel)
theorem kc_X6_116 : Cond.constant "BoreplanModel" 116 (1000000 : Int32) ∈ bp_UW := uw_1312
theorem uw_1313 : Cond.methodLink "BoreplanModel" 117 ⟨"BoreplanModel", "lasts", "(II)I"⟩ ∈ bp_UW := bp_uw 1313 (by decide +kernel) (by decide +kernel)
theorem uw_1315 : Cond.instanceMethod ⟨"BoreplanModel", "lasts", "(II)I"⟩ ∈ bp_UW := bp_uw 1315 (by decide +kernel) (by decide +kernel)
theorem uw_42 : Cond.selects "BoreplanModel" ⟨"BoreplanModel", "lasts", "(II)I"⟩ ⟨"BoreplanModel", "lasts", "(II)I"⟩ ∈ bp_UW := bp_uw 42 (by decide +kernel) (by decide +kernel)
theorem ml_X6_117 : bp_MV RX6 117 mX6_lasts 2 RX6 := ⟨⟨uw_1313, uw_52, cw_X6_lasts, ⟨by decide, by decide⟩, by decide +kernel⟩, rfl, uw_1315, uw_42⟩
theorem uw_1160 : Cond.methodLink "BoreplanModel" 120 ⟨"BoreplanModel", "isMachine", "(I)Z"⟩ ∈ bp_UW := bp_uw 1160 (by decide +kernel) (by decide +kernel)
theorem uw_1162 : Cond.instanceMethod ⟨"BoreplanModel", "isMachine", "(I)Z"⟩ ∈ bp_UW := bp_uw 1162 (by decide +kernel) (by decide +kernel)
theorem uw_23 : Cond.selects "BoreplanModel" ⟨"BoreplanModel", "isMachine", "(I)Z"⟩ ⟨"BoreplanModel", "isMachine", "(I)Z"⟩ ∈ bp_UW := bp_uw 23 (by decide +kernel) (by decide +kernel)
theorem ml_X6_120 : bp_MV RX6 120 mX6_isMachine 1 RX6 := ⟨⟨uw_1160, uw_52, cw_X6_isMachine, ⟨by decide, by decide⟩, by decide +kernel⟩, rfl, uw_1162, uw_23⟩
theorem uw_1167 : Cond.methodLink "BoreplanModel" 124 ⟨"BoreplanModel", "count", "(I)I"⟩ ∈ bp_UW := bp_uw 1167 (by decide +kernel) (by decide +kernel)
theorem uw_1168 : Cond.static ⟨"BoreplanModel", "count", "(I)I"⟩ ∈ bp_UW := bp_uw 1168 (by decide +kernel) (by decide +kernel)
theorem ml_X6_124 : bp_MS RX6 124 mX6_count 1 := ⟨⟨uw_1167, uw_52, cw_X6_count, ⟨by decide, by decide⟩, by decide +kernel⟩, uw_1168⟩
theorem uw_1218 : Cond.methodLink "BoreplanModel" 127 ⟨"BoreplanModel", "isJob", "(I)Z"⟩ ∈ bp_UW := bp_uw 1218 (by decide +kernel) (by decide +kernel)
theorem uw_1220 : Cond.instanceMethod ⟨"BoreplanModel", "isJob", "(I)Z"⟩ ∈ bp_UW := bp_uw 1220 (by decide +kernel) (by decide +kernel)
theorem uw_32 : Cond.selects "BoreplanModel" ⟨"BoreplanModel", "isJob", "(I)Z"⟩ ⟨"BoreplanModel", "isJob", "(I)Z"⟩ ∈ bp_UW := bp_uw 32 (by decide +kernel) (by decide +kernel)
theorem ml_X6_127 : bp_MV RX6 127 mX6_isJob 1 RX6 := ⟨⟨uw_1218, uw_52, cw_X6_isJob, ⟨by decide, by decide⟩, by decide +kernel⟩, rfl, uw_1220, uw_32⟩
theorem uw_1226 : Cond.methodLink "BoreplanModel" 130 ⟨"BoreplanModel", "isFamily", "(I)Z"⟩ ∈ bp_UW := bp_uw 1226 (by decide +kernel) (by decide +kernel)
theorem uw_1227 : Cond.static ⟨"BoreplanModel", "isFamily", "(I)Z"⟩ ∈ bp_UW := bp_uw 1227 (by decide +kernel) (by decide +kernel)
theorem ml_X6_130 : bp_MS RX6 130 mX6_isFamily 1 := ⟨⟨uw_1226, uw_52, cw_X6_isFamily, ⟨by decide, by decide⟩, by decide +kernel⟩, uw_1227⟩
theorem uw_1233 : Cond.methodLink "BoreplanModel" 133 ⟨"BoreplanModel", "bars", "(I)I"⟩ ∈ bp_UW := bp_uw 1233 (by decide +kernel) (by decide +kernel)
theorem uw_1235 : Cond.instanceMethod ⟨"BoreplanModel", "bars", "(I)I"⟩ ∈ bp_UW := bp_uw 1235 (by decide +kernel) (by decide +kernel)
theorem uw_33 : Cond.selects "BoreplanModel" ⟨"BoreplanModel", "bars", "(I)I"⟩ ⟨"BoreplanModel", "bars", "(I)I"⟩ ∈ bp_UW := bp_uw 33 (by decide +kernel) (by decide +kernel)
theorem ml_X6_133 : bp_MV RX6 133 mX6_bars 1 RX6 := ⟨⟨uw_1233, uw_52, cw_X6_bars, ⟨by decide, by decide⟩, by decide +kernel⟩, rfl, uw_1235, uw_33⟩
theorem uw_1237 : Cond.methodLink "BoreplanModel" 136 ⟨"BoreplanModel", "puts", "(II)V"⟩ ∈ bp_UW := bp_uw 1237 (by decide +kernel) (by decide +kernel)
theorem uw_1239 : Cond.instanceMethod ⟨"BoreplanModel", "puts", "(II)V"⟩ ∈ bp_UW := bp_uw 1239 (by decide +kernel) (by decide +kernel)
theorem uw_34 : Cond.selects "BoreplanModel" ⟨"BoreplanModel", "puts", "(II)V"⟩ ⟨"BoreplanModel", "puts", "(II)V"⟩ ∈ bp_UW := bp_uw 34 (by decide +kernel) (by decide +kernel)
theorem ml_X6_136 : bp_MV RX6 136 mX6_puts 2 RX6 := ⟨⟨uw_1237, uw_52, cw_X6_puts, ⟨by decide, by decide⟩, by decide +kernel⟩, rfl, uw_1239, uw_34⟩
theorem uw_1249 : Cond.methodLink "BoreplanModel" 140 ⟨"BoreplanModel", "takes", "(I)V"⟩ ∈ bp_UW := bp_uw 1249 (by decide +kernel) (by decide +kernel)
theorem uw_1251 : Cond.instanceMethod ⟨"BoreplanModel", "takes", "(I)V"⟩ ∈ bp_UW := bp_uw 1251 (by decide +kernel) (by decide +kernel)
theorem uw_36 : Cond.selects "BoreplanModel" ⟨"BoreplanModel", "takes", "(I)V"⟩ ⟨"BoreplanModel", "takes", "(I)V"⟩ ∈ bp_UW := bp_uw 36 (by decide +kernel) (by decide +kernel)
theorem ml_X6_140 : bp_MV RX6 140 mX6_takes 1 RX6 := ⟨⟨uw_1249, uw_52, cw_X6_takes, ⟨by decide, by decide⟩, by decide +kernel⟩, rfl, uw_1251, uw_36⟩
theorem uw_1245 : Cond.methodLink "BoreplanModel" 144 ⟨"BoreplanModel", "rushes", "(I)V"⟩ ∈ bp_UW := bp_uw 1245 (by decide +kernel) (by decide +kernel)
theorem uw_1247 : Cond.instanceMethod ⟨"BoreplanModel", "rushes", "(I)V"⟩ ∈ bp_UW := bp_uw 1247 (by decide +kernel) (by decide +kernel)
theorem uw_35 : Cond.selects "BoreplanModel" ⟨"BoreplanModel", "rushes", "(I)V"⟩ ⟨"BoreplanModel", "rushes", "(I)V"⟩ ∈ bp_UW := bp_uw 35 (by decide +kernel) (by decide +kernel)
theorem ml_X6_144 : bp_MV RX6 144 mX6_rushes 1 RX6 := ⟨⟨uw_1245, uw_52, cw_X6_rushes, ⟨by decide, by decide⟩, by decide +kernel⟩, rfl, uw_1247, uw_35⟩
theorem uw_1261 : Cond.methodLink "BoreplanModel" 147 ⟨"BoreplanModel", "exchanges", "(II)V"⟩ ∈ bp_UW := bp_uw 1261 (by decide +kernel) (by decide +kernel)
theorem uw_1263 : Cond.instanceMethod ⟨"BoreplanModel", "exchanges", "(II)V"⟩ ∈ bp_UW := bp_uw 1263 (by decide +kernel) (by decide +kernel)
theorem uw_37 : Cond.selects "BoreplanModel" ⟨"BoreplanModel", "exchanges", "(II)V"⟩ ⟨"BoreplanModel", "exchanges", "(II)V"⟩ ∈ bp_UW := bp_uw 37 (by decide +kernel) (by decide +kernel)
theorem ml_X6_147 : bp_MV RX6 147 mX6_exchanges 2 RX6 := ⟨⟨uw_1261, uw_52, cw_X6_exchanges, ⟨by decide, by decide⟩, by decide +kernel⟩, rfl, uw_1263, uw_37⟩
theorem uw_1265 : Cond.methodLink "BoreplanModel" 150 ⟨"BoreplanModel", "fails", "(I)I"⟩ ∈ bp_UW := bp_uw 1265 (by decide +kernel) (by decide +kernel)
theorem uw_1267 : Cond.instanceMethod ⟨"BoreplanModel", "fails", "(I)I"⟩ ∈ bp_UW := bp_uw 1267 (by decide +kernel) (by decide +kernel)
theorem uw_38 : Cond.selects "BoreplanModel" ⟨"BoreplanModel", "fails", "(I)I"⟩ ⟨"BoreplanModel", "fails", "(I)I"⟩ ∈ bp_UW := bp_uw 38 (by decide +kernel) (by decide +kernel)
theorem ml_X6_150 : bp_MV RX6 150 mX6_fails 1 RX6 := ⟨⟨uw_1265, uw_52, cw_X6_fails, ⟨by decide, by decide⟩, by decide +kernel⟩, rfl, uw_1267, uw_38⟩
theorem uw_1277 : Cond.methodLink "BoreplanModel" 153 ⟨"BoreplanModel", "code", "(I)I"⟩ ∈ bp_UW := bp_uw 1277 (by decide +kernel) (by decide +kernel)
theorem uw_1278 : Cond.static ⟨"BoreplanModel", "code", "(I)I"⟩ ∈ bp_UW := bp_uw 1278 (by decide +kernel) (by decide +kernel)
theorem ml_X6_153 : bp_MS RX6 153 mX6_code 1 := ⟨⟨uw_1277, uw_52, cw_X6_code, ⟨by decide, by decide⟩, by decide +kernel⟩, uw_1278⟩
theorem uw_1288 : Cond.methodLink "BoreplanModel" 156 ⟨"BoreplanModel", "isAsked", "(II)Z"⟩ ∈ bp_UW := bp_uw 1288 (by decide +kernel) (by decide +kernel)
theorem uw_1290 : Cond.instanceMethod ⟨"BoreplanModel", "isAsked", "(II)Z"⟩ ∈ bp_UW := bp_uw 1290 (by decide +kernel) (by decide +kernel)
theorem uw_40 : Cond.selects "BoreplanModel" ⟨"BoreplanModel", "isAsked", "(II)Z"⟩ ⟨"BoreplanModel", "isAsked", "(II)Z"⟩ ∈ bp_UW := bp_uw 40 (by decide +kernel) (by decide +kernel)
theorem ml_X6_156 : bp_MV RX6 156 mX6_isAsked 2 RX6 := ⟨⟨uw_1288, uw_52, cw_X6_isAsked, ⟨by decide, by decide⟩, by decide +kernel⟩, rfl, uw_1290, uw_40⟩
theorem uw_1284 : Cond.methodLink "BoreplanModel" 160 ⟨"BoreplanModel", "startNow", "(II)I"⟩ ∈ bp_UW := bp_uw 1284 (by decide +kernel) (by decide +kernel)
theorem uw_1286 : Cond.instanceMethod ⟨"BoreplanModel", "startNow", "(II)I"⟩ ∈ bp_UW := bp_uw 1286 (by decide +kernel) (by decide +kernel)
theorem uw_39 : Cond.selects "BoreplanModel" ⟨"BoreplanModel", "startNow", "(II)I"⟩ ⟨"BoreplanModel", "startNow", "(II)I"⟩ ∈ bp_UW := bp_uw 39 (by decide +kernel) (by decide +kernel)
theorem ml_X6_160 : bp_MV RX6 160 mX6_startNow 2 RX6 := ⟨⟨uw_1284, uw_52, cw_X6_startNow, ⟨by decide, by decide⟩, by decide +kernel⟩, rfl, uw_1286, uw_39⟩
theorem uw_1308 : Cond.methodLink "BoreplanModel" 163 ⟨"BoreplanModel", "worksBack", "()V"⟩ ∈ bp_UW := bp_uw 1308 (by decide +kernel) (by decide +kernel)
theorem uw_1310 : Cond.instanceMethod ⟨"BoreplanModel", "worksBack", "()V"⟩ ∈ bp_UW := bp_uw 1310 (by decide +kernel) (by decide +kernel)
theorem uw_41 : Cond.selects "BoreplanModel" ⟨"BoreplanModel", "worksBack", "()V"⟩ ⟨"BoreplanModel", "worksBack", "()V"⟩ ∈ bp_UW := bp_uw 41 (by decide +kernel) (by decide +kernel)
theorem ml_X6_163 : bp_MV RX6 163 mX6_worksBack 0 RX6 := ⟨⟨uw_1308, uw_52, cw_X6_worksBack, ⟨by decide, by decide⟩, by decide +kernel⟩, rfl, uw_1310, uw_41⟩
theorem uw_1092 : Cond.fieldLink "BoreplanModel" 166 "BoreplanModel" "pathMany" "I" ∈ bp_UW := bp_uw 1092 (by decide +kernel) (by decide +kernel)
theorem fl_X6_166 : bp_FL RX6 166 6 21 (.int) (some false) := ⟨RX6, TX6, 25, "BoreplanModel", tyX6, rfl, by decide, uc_X6, tyX6_ok, nmX6, uw_1092, Or.inl rfl, rfl, (fun _ => rfl), (fun h => by cases h)⟩
theorem uw_1321 : Cond.methodLink "BoreplanModel" 169 ⟨"BoreplanModel", "walks", "()V"⟩ ∈ bp_UW := bp_uw 1321 (by decide +kernel) (by decide +kernel)
theorem uw_1323 : Cond.instanceMethod ⟨"BoreplanModel", "walks", "()V"⟩ ∈ bp_UW := bp_uw 1323 (by decide +kernel) (by decide +kernel)
theorem uw_43 : Cond.selects "BoreplanModel" ⟨"BoreplanModel", "walks", "()V"⟩ ⟨"BoreplanModel", "walks", "()V"⟩ ∈ bp_UW := bp_uw 43 (by decide +kernel) (by decide +kernel)
theorem ml_X6_169 : bp_MV RX6 169 mX6_walks 0 RX6 := ⟨⟨uw_1321, uw_52, cw_X6_walks, ⟨by decide, by decide⟩, by decide +kernel⟩, rfl, uw_1323, uw_43⟩
theorem uw_1337 : Cond.methodLink "BoreplanModel" 172 ⟨"BoreplanModel", "needs", "(II)V"⟩ ∈ bp_UW := bp_uw 1337 (by decide +kernel) (by decide +kernel)
theorem uw_1339 : Cond.instanceMethod ⟨"BoreplanModel", "needs", "(II)V"⟩ ∈ bp_UW := bp_uw 1339 (by decide +kernel) (by decide +kernel)
theorem uw_44 : Cond.selects "BoreplanModel" ⟨"BoreplanModel", "needs", "(II)V"⟩ ⟨"BoreplanModel", "needs", "(II)V"⟩ ∈ bp_UW := bp_uw 44 (by decide +kernel) (by decide +kernel)
theorem ml_X6_172 : bp_MV RX6 172 mX6_needs 2 RX6 := ⟨⟨uw_1337, uw_52, cw_X6_needs, ⟨by decide, by decide⟩, by decide +kernel⟩, rfl, uw_1339, uw_44⟩
theorem uw_270 : Cond.methodLink "BoreplanLaw" 7 ⟨"Boreplan", "addMachine", "()I"⟩ ∈ bp_UW := bp_uw 270 (by decide +kernel) (by decide +kernel)
theorem uw_271 : Cond.instanceMethod ⟨"Boreplan", "addMachine", "()I"⟩ ∈ bp_UW := bp_uw 271 (by decide +kernel) (by decide +kernel)
theorem uw_272 : Cond.selects "Boreplan" ⟨"Boreplan", "addMachine", "()I"⟩ ⟨"Boreplan", "addMachine", "()I"⟩ ∈ bp_UW := bp_uw 272 (by decide +kernel) (by decide +kernel)
theorem ml_L_7 : bp_MV RL 7 mX5_addMachine 0 RX5 := ⟨⟨uw_270, uw_46, cw_X5_addMachine, ⟨by decide, by decide⟩, by decide +kernel⟩, rfl, uw_271, uw_272⟩
theorem uw_386 : Cond.methodLink "BoreplanLaw" 15 ⟨"Boreplan", "setMagazine", "(II)I"⟩ ∈ bp_UW := bp_uw 386 (by decide +kernel) (by decide +kernel)
theorem uw_387 : Cond.instanceMethod ⟨"Boreplan", "setMagazine", "(II)I"⟩ ∈ bp_UW := bp_uw 387 (by decide +kernel) (by decide +kernel)
theorem uw_388 : Cond.selects "Boreplan" ⟨"Boreplan", "setMagazine", "(II)I"⟩ ⟨"Boreplan", "setMagazine", "(II)I"⟩ ∈ bp_UW := bp_uw 388 (by decide +kernel) (by decide +kernel)
theorem ml_L_15 : bp_MV RL 15 mX5_setMagazine 2 RX5 := ⟨⟨uw_386, uw_46, cw_X5_setMagazine, ⟨by decide, by decide⟩, by decide +kernel⟩, rfl, uw_387, uw_388⟩
theorem uw_431 : Cond.methodLink "BoreplanLaw" 23 ⟨"Boreplan", "breakdown", "(III)I"⟩ ∈ bp_UW := bp_uw 431 (by decide +kernel) (by decide +kernel)
theorem uw_432 : Cond.instanceMethod ⟨"Boreplan", "breakdown", "(III)I"⟩ ∈ bp_UW := bp_uw 432 (by decide +kernel) (by decide +kernel)
theorem uw_433 : Cond.selects "Boreplan" ⟨"Boreplan", "breakdown", "(III)I"⟩ ⟨"Boreplan", "breakdown", "(III)I"⟩ ∈ bp_UW := bp_uw 433 (by decide +kernel) (by decide +kernel)
theorem ml_L_23 : bp_MV RL 23 mX5_breakdown 3 RX5 := ⟨⟨uw_431, uw_46, cw_X5_breakdown, ⟨by decide, by decide⟩, by decide +kernel⟩, rfl, uw_432, uw_433⟩
theorem uw_466 : Cond.methodLink "BoreplanLaw" 27 ⟨"Boreplan", "repair", "(I)Z"⟩ ∈ bp_UW := bp_uw 466 (by decide +kernel) (by decide +kernel)
theorem uw_467 : Cond.instanceMethod ⟨"Boreplan", "repair", "(I)Z"⟩ ∈ bp_UW := bp_uw 467 (by decide +kernel) (by decide +kernel)
theorem uw_468 : Cond.selects "Boreplan" ⟨"Boreplan", "repair", "(I)Z"⟩ ⟨"Boreplan", "repair", "(I)Z"⟩ ∈ bp_UW := bp_uw 468 (by decide +kernel) (by decide +kernel)
theorem ml_L_27 : bp_MV RL 27 mX5_repair 1 RX5 := ⟨⟨uw_466, uw_46, cw_X5_repair, ⟨by decide, by decide⟩, by decide +kernel⟩, rfl, uw_467, uw_468⟩
theorem uw_473 : Cond.methodLink "BoreplanLaw" 31 ⟨"Boreplan", "addJob", "(I)I"⟩ ∈ bp_UW := bp_uw 473 (by decide +kernel) (by decide +kernel)
theorem uw_474 : Cond.instanceMethod ⟨"Boreplan", "addJob", "(I)I"⟩ ∈ bp_UW := bp_uw 474 (by decide +kernel) (by decide +kernel)
theorem uw_475 : Cond.selects "Boreplan" ⟨"Boreplan", "addJob", "(I)I"⟩ ⟨"Boreplan", "addJob", "(I)I"⟩ ∈ bp_UW := bp_uw 475 (by decide +kernel) (by decide +kernel)
theorem ml_L_31 : bp_MV RL 31 mX5_addJob 1 RX5 := ⟨⟨uw_473, uw_46, cw_X5_addJob, ⟨by decide, by decide⟩, by decide +kernel⟩, rfl, uw_474, uw_475⟩
theorem uw_511 : Cond.methodLink "BoreplanLaw" 35 ⟨"Boreplan", "addOperation", "(IIIII)I"⟩ ∈ bp_UW := bp_uw 511 (by decide +kernel) (by decide +kernel)
theorem uw_512 : Cond.instanceMethod ⟨"Boreplan", "addOperation", "(IIIII)I"⟩ ∈ bp_UW := bp_uw 512 (by decide +kernel) (by decide +kernel)
theorem uw_513 : Cond.selects "Boreplan" ⟨"Boreplan", "addOperation", "(IIIII)I"⟩ ⟨"Boreplan", "addOperation", "(IIIII)I"⟩ ∈ bp_UW := bp_uw 513 (by decide +kernel) (by decide +kernel)
theorem ml_L_35 : bp_MV RL 35 mX5_addOperation 5 RX5 := ⟨⟨uw_511, uw_46, cw_X5_addOperation, ⟨by decide, by decide⟩, by decide +kernel⟩, rfl, uw_512, uw_513⟩
theorem uw_610 : Cond.methodLink "BoreplanLaw" 39 ⟨"Boreplan", "setSetup", "(III)I"⟩ ∈ bp_UW := bp_uw 610 (by decide +kernel) (by decide +kernel)
theorem uw_611 : Cond.instanceMethod ⟨"Boreplan", "setSetup", "(III)I"⟩ ∈ bp_UW := bp_uw 611 (by decide +kernel) (by decide +kernel)
theorem uw_612 : Cond.selects "Boreplan" ⟨"Boreplan", "setSetup", "(III)I"⟩ ⟨"Boreplan", "setSetup", "(III)I"⟩ ∈ bp_UW := bp_uw 612 (by decide +kernel) (by decide +kernel)
theorem ml_L_39 : bp_MV RL 39 mX5_setSetup 3 RX5 := ⟨⟨uw_610, uw_46, cw_X5_setSetup, ⟨by decide, by decide⟩, by decide +kernel⟩, rfl, uw_611, uw_612⟩
theorem uw_619 : Cond.methodLink "BoreplanLaw" 42 ⟨"Boreplan", "place", "(I)I"⟩ ∈ bp_UW := bp_uw 619 (by decide +kernel) (by decide +kernel)
theorem uw_620 : Cond.instanceMethod ⟨"Boreplan", "place", "(I)I"⟩ ∈ bp_UW := bp_uw 620 (by decide +kernel) (by decide +kernel)
theorem uw_621 : Cond.selects "Boreplan" ⟨"Boreplan", "place", "(I)I"⟩ ⟨"Boreplan", "place", "(I)I"⟩ ∈ bp_UW := bp_uw 621 (by decide +kernel) (by decide +kernel)
theorem ml_L_42 : bp_MV RL 42 mX5_place 1 RX5 := ⟨⟨uw_619, uw_46, cw_X5_place, ⟨by decide, by decide⟩, by decide +kernel⟩, rfl, uw_620, uw_621⟩
theorem uw_893 : Cond.methodLink "BoreplanLaw" 45 ⟨"Boreplan", "rush", "(I)I"⟩ ∈ bp_UW := bp_uw 893 (by decide +kernel) (by decide +kernel)
theorem uw_894 : Cond.instanceMethod ⟨"Boreplan", "rush", "(I)I"⟩ ∈ bp_UW := bp_uw 894 (by decide +kernel) (by decide +kernel)
theorem uw_895 : Cond.selects "Boreplan" ⟨"Boreplan", "rush", "(I)I"⟩ ⟨"Boreplan", "rush", "(I)I"⟩ ∈ bp_UW := bp_uw 895 (by decide +kernel) (by decide +kernel)
theorem ml_L_45 : bp_MV RL 45 mX5_rush 1 RX5 := ⟨⟨uw_893, uw_46, cw_X5_rush, ⟨by decide, by decide⟩, by decide +kernel⟩, rfl, uw_894, uw_895⟩
theorem uw_919 : Cond.methodLink "BoreplanLaw" 48 ⟨"Boreplan", "remove", "(I)I"⟩ ∈ bp_UW := bp_uw 919 (by decide +kernel) (by decide +kernel)
theorem uw_920 : Cond.instanceMethod ⟨"Boreplan", "remove", "(I)I"⟩ ∈ bp_UW := bp_uw 920 (by decide +kernel) (by decide +kernel)
theorem uw_921 : Cond.selects "Boreplan" ⟨"Boreplan", "remove", "(I)I"⟩ ⟨"Boreplan", "remove", "(I)I"⟩ ∈ bp_UW := bp_uw 921 (by decide +kernel) (by decide +kernel)
theorem ml_L_48 : bp_MV RL 48 mX5_remove 1 RX5 := ⟨⟨uw_919, uw_46, cw_X5_remove, ⟨by decide, by decide⟩, by decide +kernel⟩, rfl, uw_920, uw_921⟩
theorem uw_935 : Cond.methodLink "BoreplanLaw" 51 ⟨"Boreplan", "swap", "(II)I"⟩ ∈ bp_UW := bp_uw 935 (by decide +kernel) (by decide +kernel)
theorem uw_936 : Cond.instanceMethod ⟨"Boreplan", "swap", "(II)I"⟩ ∈ bp_UW := bp_uw 936 (by decide +kernel) (by decide +kernel)
theorem uw_937 : Cond.selects "Boreplan" ⟨"Boreplan", "swap", "(II)I"⟩ ⟨"Boreplan", "swap", "(II)I"⟩ ∈ bp_UW := bp_uw 937 (by decide +kernel) (by decide +kernel)
theorem ml_L_51 : bp_MV RL 51 mX5_swap 2 RX5 := ⟨⟨uw_935, uw_46, cw_X5_swap, ⟨by decide, by decide⟩, by decide +kernel⟩, rfl, uw_936, uw_937⟩
theorem uw_952 : Cond.methodLink "BoreplanLaw" 54 ⟨"Boreplan", "placed", "(I)I"⟩ ∈ bp_UW := bp_uw 952 (by decide +kernel) (by decide +kernel)
theorem uw_953 : Cond.instanceMethod ⟨"Boreplan", "placed", "(I)I"⟩ ∈ bp_UW := bp_uw 953 (by decide +kernel) (by decide +kernel)
theorem uw_954 : Cond.selects "Boreplan" ⟨"Boreplan", "placed", "(I)I"⟩ ⟨"Boreplan", "placed", "(I)I"⟩ ∈ bp_UW := bp_uw 954 (by decide +kernel) (by decide +kernel)
theorem ml_L_54 : bp_MV RL 54 mX5_placed 1 RX5 := ⟨⟨uw_952, uw_46, cw_X5_placed, ⟨by decide, by decide⟩, by decide +kernel⟩, rfl, uw_953, uw_954⟩
theorem uw_959 : Cond.methodLink "BoreplanLaw" 57 ⟨"Boreplan", "placedAt", "(II)I"⟩ ∈ bp_UW := bp_uw 959 (by decide +kernel) (by decide +kernel)
theorem uw_960 : Cond.instanceMethod ⟨"Boreplan", "placedAt", "(II)I"⟩ ∈ bp_UW := bp_uw 960 (by decide +kernel) (by decide +kernel)
theorem uw_961 : Cond.selects "Boreplan" ⟨"Boreplan", "placedAt", "(II)I"⟩ ⟨"Boreplan", "placedAt", "(II)I"⟩ ∈ bp_UW := bp_uw 961 (by decide +kernel) (by decide +kernel)
theorem ml_L_57 : bp_MV RL 57 mX5_placedAt 2 RX5 := ⟨⟨uw_959, uw_46, cw_X5_placedAt, ⟨by decide, by decide⟩, by decide +kernel⟩, rfl, uw_960, uw_961⟩
theorem uw_971 : Cond.methodLink "BoreplanLaw" 60 ⟨"Boreplan", "startOf", "(II)I"⟩ ∈ bp_UW := bp_uw 971 (by decide +kernel) (by decide +kernel)
theorem uw_972 : Cond.instanceMethod ⟨"Boreplan", "startOf", "(II)I"⟩ ∈ bp_UW := bp_uw 972 (by decide +kernel) (by decide +kernel)
theorem uw_973 : Cond.selects "Boreplan" ⟨"Boreplan", "startOf", "(II)I"⟩ ⟨"Boreplan", "startOf", "(II)I"⟩ ∈ bp_UW := bp_uw 973 (by decide +kernel) (by decide +kernel)
theorem ml_L_60 : bp_MV RL 60 mX5_startOf 2 RX5 := ⟨⟨uw_971, uw_46, cw_X5_startOf, ⟨by decide, by decide⟩, by decide +kernel⟩, rfl, uw_972, uw_973⟩
theorem uw_983 : Cond.methodLink "BoreplanLaw" 63 ⟨"Boreplan", "startByRounds", "(II)I"⟩ ∈ bp_UW := bp_uw 983 (by decide +kernel) (by decide +kernel)
theorem uw_984 : Cond.instanceMethod ⟨"Boreplan", "startByRounds", "(II)I"⟩ ∈ bp_UW := bp_uw 984 (by decide +kernel) (by decide +kernel)
theorem uw_985 : Cond.selects "Boreplan" ⟨"Boreplan", "startByRounds", "(II)I"⟩ ⟨"Boreplan", "startByRounds", "(II)I"⟩ ∈ bp_UW := bp_uw 985 (by decide +kernel) (by decide +kernel)
theorem ml_L_63 : bp_MV RL 63 mX5_startByRounds 2 RX5 := ⟨⟨uw_983, uw_46, cw_X5_startByRounds, ⟨by decide, by decide⟩, by decide +kernel⟩, rfl, uw_984, uw_985⟩
theorem uw_1002 : Cond.methodLink "BoreplanLaw" 66 ⟨"Boreplan", "lateness", "(I)I"⟩ ∈ bp_UW := bp_uw 1002 (by decide +kernel) (by decide +kernel)
theorem uw_1003 : Cond.instanceMethod ⟨"Boreplan", "lateness", "(I)I"⟩ ∈ bp_UW := bp_uw 1003 (by decide +kernel) (by decide +kernel)
theorem uw_1004 : Cond.selects "Boreplan" ⟨"Boreplan", "lateness", "(I)I"⟩ ⟨"Boreplan", "lateness", "(I)I"⟩ ∈ bp_UW := bp_uw 1004 (by decide +kernel) (by decide +kernel)
theorem ml_L_66 : bp_MV RL 66 mX5_lateness 1 RX5 := ⟨⟨uw_1002, uw_46, cw_X5_lateness, ⟨by decide, by decide⟩, by decide +kernel⟩, rfl, uw_1003, uw_1004⟩
theorem uw_1010 : Cond.methodLink "BoreplanLaw" 69 ⟨"Boreplan", "slack", "(II)I"⟩ ∈ bp_UW := bp_uw 1010 (by decide +kernel) (by decide +kernel)
theorem uw_1011 : Cond.instanceMethod ⟨"Boreplan", "slack", "(II)I"⟩ ∈ bp_UW := bp_uw 1011 (by decide +kernel) (by decide +kernel)
theorem uw_1012 : Cond.selects "Boreplan" ⟨"Boreplan", "slack", "(II)I"⟩ ⟨"Boreplan", "slack", "(II)I"⟩ ∈ bp_UW := bp_uw 1012 (by decide +kernel) (by decide +kernel)
theorem ml_L_69 : bp_MV RL 69 mX5_slack 2 RX5 := ⟨⟨uw_1010, uw_46, cw_X5_slack, ⟨by decide, by decide⟩, by decide +kernel⟩, rfl, uw_1011, uw_1012⟩
theorem uw_1030 : Cond.methodLink "BoreplanLaw" 72 ⟨"Boreplan", "criticalAt", "(I)I"⟩ ∈ bp_UW := bp_uw 1030 (by decide +kernel) (by decide +kernel)
theorem uw_1031 : Cond.instanceMethod ⟨"Boreplan", "criticalAt", "(I)I"⟩ ∈ bp_UW := bp_uw 1031 (by decide +kernel) (by decide +kernel)
theorem uw_1032 : Cond.selects "Boreplan" ⟨"Boreplan", "criticalAt", "(I)I"⟩ ⟨"Boreplan", "criticalAt", "(I)I"⟩ ∈ bp_UW := bp_uw 1032 (by decide +kernel) (by decide +kernel)
theorem ml_L_72 : bp_MV RL 72 mX5_criticalAt 1 RX5 := ⟨⟨uw_1030, uw_46, cw_X5_criticalAt, ⟨by decide, by decide⟩, by decide +kernel⟩, rfl, uw_1031, uw_1032⟩
theorem uw_1037 : Cond.methodLink "BoreplanLaw" 75 ⟨"Boreplan", "setups", "(I)I"⟩ ∈ bp_UW := bp_uw 1037 (by decide +kernel) (by decide +kernel)
theorem uw_1038 : Cond.instanceMethod ⟨"Boreplan", "setups", "(I)I"⟩ ∈ bp_UW := bp_uw 1038 (by decide +kernel) (by decide +kernel)
theorem uw_1039 : Cond.selects "Boreplan" ⟨"Boreplan", "setups", "(I)I"⟩ ⟨"Boreplan", "setups", "(I)I"⟩ ∈ bp_UW := bp_uw 1039 (by decide +kernel) (by decide +kernel)
theorem ml_L_75 : bp_MV RL 75 mX5_setups 1 RX5 := ⟨⟨uw_1037, uw_46, cw_X5_setups, ⟨by decide, by decide⟩, by decide +kernel⟩, rfl, uw_1038, uw_1039⟩
theorem uw_1052 : Cond.methodLink "BoreplanLaw" 78 ⟨"Boreplan", "loads", "(I)I"⟩ ∈ bp_UW := bp_uw 1052 (by decide +kernel) (by decide +kernel)
theorem uw_1053 : Cond.instanceMethod ⟨"Boreplan", "loads", "(I)I"⟩ ∈ bp_UW := bp_uw 1053 (by decide +kernel) (by decide +kernel)
theorem uw_1054 : Cond.selects "Boreplan" ⟨"Boreplan", "loads", "(I)I"⟩ ⟨"Boreplan", "loads", "(I)I"⟩ ∈ bp_UW := bp_uw 1054 (by decide +kernel) (by decide +kernel)
theorem ml_L_78 : bp_MV RL 78 mX5_loads 1 RX5 := ⟨⟨uw_1052, uw_46, cw_X5_loads, ⟨by decide, by decide⟩, by decide +kernel⟩, rfl, uw_1053, uw_1054⟩
theorem uw_75 : Cond.classLink "BoreplanLaw" 8 "Boreplan" ∈ bp_UW := bp_uw 75 (by decide +kernel) (by decide +kernel)
theorem uw_76 : Cond.instantiable "Boreplan" 1 ∈ bp_UW := bp_uw 76 (by decide +kernel) (by decide +kernel)
theorem nw_L_8 : bp_NW RL 8 5 1 tyX5 := ⟨RX5, TX5, rfl, uc_X5, tyX5_ok, uw_75, uw_76, uw_46⟩
theorem uw_77 : Cond.methodLink "BoreplanLaw" 81 ⟨"Boreplan", "<init>", "()V"⟩ ∈ bp_UW := bp_uw 77 (by decide +kernel) (by decide +kernel)
theorem uw_78 : Cond.instanceMethod ⟨"Boreplan", "<init>", "()V"⟩ ∈ bp_UW := bp_uw 78 (by decide +kernel) (by decide +kernel)
theorem ml_L_81 : bp_MI RL 81 mX5_init 0 := ⟨⟨uw_77, uw_46, cw_X5_init, ⟨by decide, by decide⟩, by decide +kernel⟩, rfl, rfl, rfl, uw_78⟩
theorem uw_1065 : Cond.classLink "BoreplanLaw" 82 "BoreplanModel" ∈ bp_UW := bp_uw 1065 (by decide +kernel) (by decide +kernel)
theorem uw_1066 : Cond.instantiable "BoreplanModel" 25 ∈ bp_UW := bp_uw 1066 (by decide +kernel) (by decide +kernel)
theorem nw_L_82 : bp_NW RL 82 6 25 tyX6 := ⟨RX6, TX6, rfl, uc_X6, tyX6_ok, uw_1065, uw_1066, uw_52⟩
theorem uw_1067 : Cond.methodLink "BoreplanLaw" 84 ⟨"BoreplanModel", "<init>", "()V"⟩ ∈ bp_UW := bp_uw 1067 (by decide +kernel) (by decide +kernel)
theorem uw_1068 : Cond.instanceMethod ⟨"BoreplanModel", "<init>", "()V"⟩ ∈ bp_UW := bp_uw 1068 (by decide +kernel) (by decide +kernel)
theorem ml_L_84 : bp_MI RL 84 mX6_init 0 := ⟨⟨uw_1067, uw_52, cw_X6_init, ⟨by decide, by decide⟩, by decide +kernel⟩, rfl, rfl, rfl, uw_1068⟩
theorem uw_266 : Cond.methodLink "BoreplanLaw" 85 ⟨"BoreplanLaw", "addMachine", "(LBoreplan;[J)I"⟩ ∈ bp_UW := bp_uw 266 (by decide +kernel) (by decide +kernel)
theorem uw_45 : Cond.initialized "BoreplanLaw" ∈ bp_UW := bp_uw 45 (by decide +kernel) (by decide +kernel)
theorem uw_267 : Cond.static ⟨"BoreplanLaw", "addMachine", "(LBoreplan;[J)I"⟩ ∈ bp_UW := bp_uw 267 (by decide +kernel) (by decide +kernel)
theorem ml_L_85 : bp_MS RL 85 mL_addMachine 2 := ⟨⟨uw_266, uw_45, cw_L_addMachine, ⟨by decide, by decide⟩, by decide +kernel⟩, uw_267⟩
theorem uw_1152 : Cond.methodLink "BoreplanLaw" 90 ⟨"BoreplanModel", "addMachine", "()I"⟩ ∈ bp_UW := bp_uw 1152 (by decide +kernel) (by decide +kernel)
theorem uw_1153 : Cond.instanceMethod ⟨"BoreplanModel", "addMachine", "()I"⟩ ∈ bp_UW := bp_uw 1153 (by decide +kernel) (by decide +kernel)
theorem uw_1154 : Cond.selects "BoreplanModel" ⟨"BoreplanModel", "addMachine", "()I"⟩ ⟨"BoreplanModel", "addMachine", "()I"⟩ ∈ bp_UW := bp_uw 1154 (by decide +kernel) (by decide +kernel)
theorem ml_L_90 : bp_MV RL 90 mX6_addMachine 0 RX6 := ⟨⟨uw_1152, uw_52, cw_X6_addMachine, ⟨by decide, by decide⟩, by decide +kernel⟩, rfl, uw_1153, uw_1154⟩
theorem uw_1148 : Cond.methodLink "BoreplanLaw" 91 ⟨"BoreplanModel", "thrown", "()I"⟩ ∈ bp_UW := bp_uw 1148 (by decide +kernel) (by decide +kernel)
theorem uw_1149 : Cond.instanceMethod ⟨"BoreplanModel", "thrown", "()I"⟩ ∈ bp_UW := bp_uw 1149 (by decide +kernel) (by decide +kernel)
theorem uw_1150 : Cond.selects "BoreplanModel" ⟨"BoreplanModel", "thrown", "()I"⟩ ⟨"BoreplanModel", "thrown", "()I"⟩ ∈ bp_UW := bp_uw 1150 (by decide +kernel) (by decide +kernel)
theorem ml_L_91 : bp_MV RL 91 mX6_thrown 0 RX6 := ⟨⟨uw_1148, uw_52, cw_X6_thrown, ⟨by decide, by decide⟩, by decide +kernel⟩, rfl, uw_1149, uw_1150⟩
theorem uw_381 : Cond.methodLink "BoreplanLaw" 94 ⟨"BoreplanLaw", "setMagazine", "(LBoreplan;II[J)I"⟩ ∈ bp_UW := bp_uw 381 (by decide +kernel) (by decide +kernel)
theorem uw_382 : Cond.static ⟨"BoreplanLaw", "setMagazine", "(LBoreplan;II[J)I"⟩ ∈ bp_UW := bp_uw 382 (by decide +kernel) (by decide +kernel)
theorem ml_L_94 : bp_MS RL 94 mL_setMagazine 4 := ⟨⟨uw_381, uw_45, cw_L_setMagazine, ⟨by decide, by decide⟩, by decide +kernel⟩, uw_382⟩
theorem uw_1156 : Cond.methodLink "BoreplanLaw" 97 ⟨"BoreplanModel", "setMagazine", "(II)I"⟩ ∈ bp_UW := bp_uw 1156 (by decide +kernel) (by decide +kernel)
theorem uw_1157 : Cond.instanceMethod ⟨"BoreplanModel", "setMagazine", "(II)I"⟩ ∈ bp_UW := bp_uw 1157 (by decide +kernel) (by decide +kernel)
theorem uw_1158 : Cond.selects "BoreplanModel" ⟨"BoreplanModel", "setMagazine", "(II)I"⟩ ⟨"BoreplanModel", "setMagazine", "(II)I"⟩ ∈ bp_UW := bp_uw 1158 (by decide +kernel) (by decide +kernel)
theorem ml_L_97 : bp_MV RL 97 mX6_setMagazine 2 RX6 := ⟨⟨uw_1156, uw_52, cw_X6_setMagazine, ⟨by decide, by decide⟩, by decide +kernel⟩, rfl, uw_1157, uw_1158⟩
theorem uw_428 : Cond.methodLink "BoreplanLaw" 98 ⟨"BoreplanLaw", "breakdown", "(LBoreplan;III[J)I"⟩ ∈ bp_UW := bp_uw 428 (by decide +kernel) (by decide +kernel)
theorem uw_429 : Cond.static ⟨"BoreplanLaw", "breakdown", "(LBoreplan;III[J)I"⟩ ∈ bp_UW := bp_uw 429 (by decide +kernel) (by decide +kernel)
theorem ml_L_98 : bp_MS RL 98 mL_breakdown 5 := ⟨⟨uw_428, uw_45, cw_L_breakdown, ⟨by decide, by decide⟩, by decide +kernel⟩, uw_429⟩
theorem uw_1170 : Cond.methodLink "BoreplanLaw" 101 ⟨"BoreplanModel", "breakdown", "(III)I"⟩ ∈ bp_UW := bp_uw 1170 (by decide +kernel) (by decide +kernel)
theorem uw_1171 : Cond.instanceMethod ⟨"BoreplanModel", "breakdown", "(III)I"⟩ ∈ bp_UW := bp_uw 1171 (by decide +kernel) (by decide +kernel)
theorem uw_1172 : Cond.selects "BoreplanModel" ⟨"BoreplanModel", "breakdown", "(III)I"⟩ ⟨"BoreplanModel", "breakdown", "(III)I"⟩ ∈ bp_UW := bp_uw 1172 (by decide +kernel) (by decide +kernel)
theorem ml_L_101 : bp_MV RL 101 mX6_breakdown 3 RX6 := ⟨⟨uw_1170, uw_52, cw_X6_breakdown, ⟨by decide, by decide⟩, by decide +kernel⟩, rfl, uw_1171, uw_1172⟩
theorem uw_463 : Cond.methodLink "BoreplanLaw" 102 ⟨"BoreplanLaw", "repair", "(LBoreplan;I[J)I"⟩ ∈ bp_UW := bp_uw 463 (by decide +kernel) (by decide +kernel)
theorem uw_464 : Cond.static ⟨"BoreplanLaw", "repair", "(LBoreplan;I[J)I"⟩ ∈ bp_UW := bp_uw 464 (by decide +kernel) (by decide +kernel)
theorem ml_L_102 : bp_MS RL 102 mL_repair 3 := ⟨⟨uw_463, uw_45, cw_L_repair, ⟨by decide, by decide⟩, by decide +kernel⟩, uw_464⟩
theorem uw_1206 : Cond.methodLink "BoreplanLaw" 105 ⟨"BoreplanModel", "repair", "(I)Z"⟩ ∈ bp_UW := bp_uw 1206 (by decide +kernel) (by decide +kernel)
theorem uw_1207 : Cond.instanceMethod ⟨"BoreplanModel", "repair", "(I)Z"⟩ ∈ bp_UW := bp_uw 1207 (by decide +kernel) (by decide +kernel)
theorem uw_1208 : Cond.selects "BoreplanModel" ⟨"BoreplanModel", "repair", "(I)Z"⟩ ⟨"BoreplanModel", "repair", "(I)Z"⟩ ∈ bp_UW := bp_uw 1208 (by decide +kernel) (by decide +kernel)
theorem ml_L_105 : bp_MV RL 105 mX6_repair 1 RX6 := ⟨⟨uw_1206, uw_52, cw_X6_repair, ⟨by decide, by decide⟩, by decide +kernel⟩, rfl, uw_1207, uw_1208⟩
theorem uw_470 : Cond.methodLink "BoreplanLaw" 106 ⟨"BoreplanLaw", "addJob", "(LBoreplan;I[J)I"⟩ ∈ bp_UW := bp_uw 470 (by decide +kernel) (by decide +kernel)
theorem uw_471 : Cond.static ⟨"BoreplanLaw", "addJob", "(LBoreplan;I[J)I"⟩ ∈ bp_UW := bp_uw 471 (by decide +kernel) (by decide +kernel)
theorem ml_L_106 : bp_MS RL 106 mL_addJob 3 := ⟨⟨uw_470, uw_45, cw_L_addJob, ⟨by decide, by decide⟩, by decide +kernel⟩, uw_471⟩
theorem uw_1210 : Cond.methodLink "BoreplanLaw" 108 ⟨"BoreplanModel", "addJob", "(I)I"⟩ ∈ bp_UW := bp_uw 1210 (by decide +kernel) (by decide +kernel)
theorem uw_1211 : Cond.instanceMethod ⟨"BoreplanModel", "addJob", "(I)I"⟩ ∈ bp_UW := bp_uw 1211 (by decide +kernel) (by decide +kernel)
theorem uw_1212 : Cond.selects "BoreplanModel" ⟨"BoreplanModel", "addJob", "(I)I"⟩ ⟨"BoreplanModel", "addJob", "(I)I"⟩ ∈ bp_UW := bp_uw 1212 (by decide +kernel) (by decide +kernel)
theorem ml_L_108 : bp_MV RL 108 mX6_addJob 1 RX6 := ⟨⟨uw_1210, uw_52, cw_X6_addJob, ⟨by decide, by decide⟩, by decide +kernel⟩, rfl, uw_1211, uw_1212⟩
theorem uw_508 : Cond.methodLink "BoreplanLaw" 109 ⟨"BoreplanLaw", "addOperation", "(LBoreplan;IIIII[J)I"⟩ ∈ bp_UW := bp_uw 508 (by decide +kernel) (by decide +kernel)
theorem uw_509 : Cond.static ⟨"BoreplanLaw", "addOperation", "(LBoreplan;IIIII[J)I"⟩ ∈ bp_UW := bp_uw 509 (by decide +kernel) (by decide +kernel)
theorem ml_L_109 : bp_MS RL 109 mL_addOperation 7 := ⟨⟨uw_508, uw_45, cw_L_addOperation, ⟨by decide, by decide⟩, by decide +kernel⟩, uw_509⟩
theorem uw_1214 : Cond.methodLink "BoreplanLaw" 112 ⟨"BoreplanModel", "addOperation", "(IIIII)I"⟩ ∈ bp_UW := bp_uw 1214 (by decide +kernel) (by decide +kernel)
theorem uw_1215 : Cond.instanceMethod ⟨"BoreplanModel", "addOperation", "(IIIII)I"⟩ ∈ bp_UW := bp_uw 1215 (by decide +kernel) (by decide +kernel)
theorem uw_1216 : Cond.selects "BoreplanModel" ⟨"BoreplanModel", "addOperation", "(IIIII)I"⟩ ⟨"BoreplanModel", "addOperation", "(IIIII)I"⟩ ∈ bp_UW := bp_uw 1216 (by decide +kernel) (by decide +kernel)
theorem ml_L_112 : bp_MV RL 112 mX6_addOperation 5 RX6 := ⟨⟨uw_1214, uw_52, cw_X6_addOperation, ⟨by decide, by decide⟩, by decide +kernel⟩, rfl, uw_1215, uw_1216⟩
theorem uw_607 : Cond.methodLink "BoreplanLaw" 113 ⟨"BoreplanLaw", "setSetup", "(LBoreplan;III[J)I"⟩ ∈ bp_UW := bp_uw 607 (by decide +kernel) (by decide +kernel)
theorem uw_608 : Cond.static ⟨"BoreplanLaw", "setSetup", "(LBoreplan;III[J)I"⟩ ∈ bp_UW := bp_uw 608 (by decide +kernel) (by decide +kernel)
theorem ml_L_113 : bp_MS RL 113 mL_setSetup 5 := ⟨⟨uw_607, uw_45, cw_L_setSetup, ⟨by decide, by decide⟩, by decide +kernel⟩, uw_608⟩
theorem uw_1222 : Cond.methodLink "BoreplanLaw" 115 ⟨"BoreplanModel", "setSetup", "(III)I"⟩ ∈ bp_UW := bp_uw 1222 (by decide +kernel) (by decide +kernel)
theorem uw_1223 : Cond.instanceMethod ⟨"BoreplanModel", "setSetup", "(III)I"⟩ ∈ bp_UW := bp_uw 1223 (by decide +kernel) (by decide +kernel)
theorem uw_1224 : Cond.selects "BoreplanModel" ⟨"BoreplanModel", "setSetup", "(III)I"⟩ ⟨"BoreplanModel", "setSetup", "(III)I"⟩ ∈ bp_UW := bp_uw 1224 (by decide +kernel) (by decide +kernel)
theorem ml_L_115 : bp_MV RL 115 mX6_setSetup 3 RX6 := ⟨⟨uw_1222, uw_52, cw_X6_setSetup, ⟨by decide, by decide⟩, by decide +kernel⟩, rfl, uw_1223, uw_1224⟩
theorem uw_616 : Cond.methodLink "BoreplanLaw" 116 ⟨"BoreplanLaw", "place", "(LBoreplan;I[J)I"⟩ ∈ bp_UW := bp_uw 616 (by decide +kernel) (by decide +kernel)
theorem uw_617 : Cond.static ⟨"BoreplanLaw", "place", "(LBoreplan;I[J)I"⟩ ∈ bp_UW := bp_uw 617 (by decide +kernel) (by decide +kernel)
theorem ml_L_116 : bp_MS RL 116 mL_place 3 := ⟨⟨uw_616, uw_45, cw_L_place, ⟨by decide, by decide⟩, by decide +kernel⟩, uw_617⟩
theorem uw_1229 : Cond.methodLink "BoreplanLaw" 118 ⟨"BoreplanModel", "place", "(I)I"⟩ ∈ bp_UW := bp_uw 1229 (by decide +kernel) (by decide +kernel)
theorem uw_1230 : Cond.instanceMethod ⟨"BoreplanModel", "place", "(I)I"⟩ ∈ bp_UW := bp_uw 1230 (by decide +kernel) (by decide +kernel)
theorem uw_1231 : Cond.selects "BoreplanModel" ⟨"BoreplanModel", "place", "(I)I"⟩ ⟨"BoreplanModel", "place", "(I)I"⟩ ∈ bp_UW := bp_uw 1231 (by decide +kernel) (by decide +kernel)
theorem ml_L_118 : bp_MV RL 118 mX6_place 1 RX6 := ⟨⟨uw_1229, uw_52, cw_X6_place, ⟨by decide, by decide⟩, by decide +kernel⟩, rfl, uw_1230, uw_1231⟩
theorem uw_890 : Cond.methodLink "BoreplanLaw" 119 ⟨"BoreplanLaw", "rush", "(LBoreplan;I[J)I"⟩ ∈ bp_UW := bp_uw 890 (by decide +kernel) (by decide +kernel)
theorem uw_891 : Cond.static ⟨"BoreplanLaw", "rush", "(LBoreplan;I[J)I"⟩ ∈ bp_UW := bp_uw 891 (by decide +kernel) (by decide +kernel)
theorem ml_L_119 : bp_MS RL 119 mL_rush 3 := ⟨⟨uw_890, uw_45, cw_L_rush, ⟨by decide, by decide⟩, by decide +kernel⟩, uw_891⟩
theorem uw_1241 : Cond.methodLink "BoreplanLaw" 121 ⟨"BoreplanModel", "rush", "(I)I"⟩ ∈ bp_UW := bp_uw 1241 (by decide +kernel) (by decide +kernel)
theorem uw_1242 : Cond.instanceMethod ⟨"BoreplanModel", "rush", "(I)I"⟩ ∈ bp_UW := bp_uw 1242 (by decide +kernel) (by decide +kernel)
theorem uw_1243 : Cond.selects "BoreplanModel" ⟨"BoreplanModel", "rush", "(I)I"⟩ ⟨"BoreplanModel", "rush", "(I)I"⟩ ∈ bp_UW := bp_uw 1243 (by decide +kernel) (by decide +kernel)
theorem ml_L_121 : bp_MV RL 121 mX6_rush 1 RX6 := ⟨⟨uw_1241, uw_52, cw_X6_rush, ⟨by decide, by decide⟩, by decide +kernel⟩, rfl, uw_1242, uw_1243⟩
theorem uw_916 : Cond.methodLink "BoreplanLaw" 122 ⟨"BoreplanLaw", "remove", "(LBoreplan;I[J)I"⟩ ∈ bp_UW := bp_uw 916 (by decide +kernel) (by decide +kernel)
theorem uw_917 : Cond.static ⟨"BoreplanLaw", "remove", "(LBoreplan;I[J)I"⟩ ∈ bp_UW := bp_uw 917 (by decide +kernel) (by decide +kernel)
theorem ml_L_122 : bp_MS RL 122 mL_remove 3 := ⟨⟨uw_916, uw_45, cw_L_remove, ⟨by decide, by decide⟩, by decide +kernel⟩, uw_917⟩
theorem uw_1253 : Cond.methodLink "BoreplanLaw" 124 ⟨"BoreplanModel", "remove", "(I)I"⟩ ∈ bp_UW := bp_uw 1253 (by decide +kernel) (by decide +kernel)
theorem uw_1254 : Cond.instanceMethod ⟨"BoreplanModel", "remove", "(I)I"⟩ ∈ bp_UW := bp_uw 1254 (by decide +kernel) (by decide +kernel)
theorem uw_1255 : Cond.selects "BoreplanModel" ⟨"BoreplanModel", "remove", "(I)I"⟩ ⟨"BoreplanModel", "remove", "(I)I"⟩ ∈ bp_UW := bp_uw 1255 (by decide +kernel) (by decide +kernel)
theorem ml_L_124 : bp_MV RL 124 mX6_remove 1 RX6 := ⟨⟨uw_1253, uw_52, cw_X6_remove, ⟨by decide, by decide⟩, by decide +kernel⟩, rfl, uw_1254, uw_1255⟩
theorem uw_932 : Cond.methodLink "BoreplanLaw" 125 ⟨"BoreplanLaw", "swap", "(LBoreplan;II[J)I"⟩ ∈ bp_UW := bp_uw 932 (by decide +kernel) (by decide +kernel)
theorem uw_933 : Cond.static ⟨"BoreplanLaw", "swap", "(LBoreplan;II[J)I"⟩ ∈ bp_UW := bp_uw 933 (by decide +kernel) (by decide +kernel)
theorem ml_L_125 : bp_MS RL 125 mL_swap 4 := ⟨⟨uw_932, uw_45, cw_L_swap, ⟨by decide, by decide⟩, by decide +kernel⟩, uw_933⟩
theorem uw_1257 : Cond.methodLink "BoreplanLaw" 127 ⟨"BoreplanModel", "swap", "(II)I"⟩ ∈ bp_UW := bp_uw 1257 (by decide +kernel) (by decide +kernel)
theorem uw_1258 : Cond.instanceMethod ⟨"BoreplanModel", "swap", "(II)I"⟩ ∈ bp_UW := bp_uw 1258 (by decide +kernel) (by decide +kernel)
theorem uw_1259 : Cond.selects "BoreplanModel" ⟨"BoreplanModel", "swap", "(II)I"⟩ ⟨"BoreplanModel", "swap", "(II)I"⟩ ∈ bp_UW := bp_uw 1259 (by decide +kernel) (by decide +kernel)
theorem ml_L_127 : bp_MV RL 127 mX6_swap 2 RX6 := ⟨⟨uw_1257, uw_52, cw_X6_swap, ⟨by decide, by decide⟩, by decide +kernel⟩, rfl, uw_1258, uw_1259⟩
theorem uw_949 : Cond.methodLink "BoreplanLaw" 128 ⟨"BoreplanLaw", "placed", "(LBoreplan;I[J)I"⟩ ∈ bp_UW := bp_uw 949 (by decide +kernel) (by decide +kernel)
theorem uw_950 : Cond.static ⟨"BoreplanLaw", "placed", "(LBoreplan;I[J)I"⟩ ∈ bp_UW := bp_uw 950 (by decide +kernel) (by decide +kernel)
theorem ml_L_128 : bp_MS RL 128 mL_placed 3 := ⟨⟨uw_949, uw_45, cw_L_placed, ⟨by decide, by decide⟩, by decide +kernel⟩, uw_950⟩
theorem uw_1269 : Cond.methodLink "BoreplanLaw" 130 ⟨"BoreplanModel", "placed", "(I)I"⟩ ∈ bp_UW := bp_uw 1269 (by decide +kernel) (by decide +kernel)
theorem uw_1270 : Cond.instanceMethod ⟨"BoreplanModel", "placed", "(I)I"⟩ ∈ bp_UW := bp_uw 1270 (by decide +kernel) (by decide +kernel)
theorem uw_1271 : Cond.selects "BoreplanModel" ⟨"BoreplanModel", "placed", "(I)I"⟩ ⟨"BoreplanModel", "placed", "(I)I"⟩ ∈ bp_UW := bp_uw 1271 (by decide +kernel) (by decide +kernel)
theorem ml_L_130 : bp_MV RL 130 mX6_placed 1 RX6 := ⟨⟨uw_1269, uw_52, cw_X6_placed, ⟨by decide, by decide⟩, by decide +kernel⟩, rfl, uw_1270, uw_1271⟩
theorem uw_956 : Cond.methodLink "BoreplanLaw" 131 ⟨"BoreplanLaw", "placedAt", "(LBoreplan;II[J)I"⟩ ∈ bp_UW := bp_uw 956 (by decide +kernel) (by decide +kernel)
theorem uw_957 : Cond.static ⟨"BoreplanLaw", "placedAt", "(LBoreplan;II[J)I"⟩ ∈ bp_UW := bp_uw 957 (by decide +kernel) (by decide +kernel)
theorem ml_L_131 : bp_MS RL 131 mL_placedAt 4 := ⟨⟨uw_956, uw_45, cw_L_placedAt, ⟨by decide, by decide⟩, by decide +kernel⟩, uw_957⟩
theorem uw_1273 : Cond.methodLink "BoreplanLaw" 133 ⟨"BoreplanModel", "placedAt", "(II)I"⟩ ∈ bp_UW := bp_uw 1273 (by decide +kernel) (by decide +kernel)
theorem uw_1274 : Cond.instanceMethod ⟨"BoreplanModel", "placedAt", "(II)I"⟩ ∈ bp_UW := bp_uw 1274 (by decide +kernel) (by decide +kernel)
theorem uw_1275 : Cond.selects "BoreplanModel" ⟨"BoreplanModel", "placedAt", "(II)I"⟩ ⟨"BoreplanModel", "placedAt", "(II)I"⟩ ∈ bp_UW := bp_uw 1275 (by decide +kernel) (by decide +kernel)
theorem ml_L_133 : bp_MV RL 133 mX6_placedAt 2 RX6 := ⟨⟨uw_1273, uw_52, cw_X6_placedAt, ⟨by decide, by decide⟩, by decide +kernel⟩, rfl, uw_1274, uw_1275⟩
theorem uw_968 : Cond.methodLink "BoreplanLaw" 134 ⟨"BoreplanLaw", "startOf", "(LBoreplan;II[J)I"⟩ ∈ bp_UW := bp_uw 968 (by decide +kernel) (by decide +kernel)
theorem uw_969 : Cond.static ⟨"BoreplanLaw", "startOf", "(LBoreplan;II[J)I"⟩ ∈ bp_UW := bp_uw 969 (by decide +kernel) (by decide +kernel)
theorem ml_L_134 : bp_MS RL 134 mL_startOf 4 := ⟨⟨uw_968, uw_45, cw_L_startOf, ⟨by decide, by decide⟩, by decide +kernel⟩, uw_969⟩
theorem uw_1280 : Cond.methodLink "BoreplanLaw" 136 ⟨"BoreplanModel", "startOf", "(II)I"⟩ ∈ bp_UW := bp_uw 1280 (by decide +kernel) (by decide +kernel)
theorem uw_1281 : Cond.instanceMethod ⟨"BoreplanModel", "startOf", "(II)I"⟩ ∈ bp_UW := bp_uw 1281 (by decide +kernel) (by decide +kernel)
theorem uw_1282 : Cond.selects "BoreplanModel" ⟨"BoreplanModel", "startOf", "(II)I"⟩ ⟨"BoreplanModel", "startOf", "(II)I"⟩ ∈ bp_UW := bp_uw 1282 (by decide +kernel) (by decide +kernel)
theorem ml_L_136 : bp_MV RL 136 mX6_startOf 2 RX6 := ⟨⟨uw_1280, uw_52, cw_X6_startOf, ⟨by decide, by decide⟩, by decide +kernel⟩, rfl, uw_1281, uw_1282⟩
theorem uw_980 : Cond.methodLink "BoreplanLaw" 137 ⟨"BoreplanLaw", "startByRounds", "(LBoreplan;II[J)I"⟩ ∈ bp_UW := bp_uw 980 (by decide +kernel) (by decide +kernel)
theorem uw_981 : Cond.static ⟨"BoreplanLaw", "startByRounds", "(LBoreplan;II[J)I"⟩ ∈ bp_UW := bp_uw 981 (by decide +kernel) (by decide +kernel)
theorem ml_L_137 : bp_MS RL 137 mL_startByRounds 4 := ⟨⟨uw_980, uw_45, cw_L_startByRounds, ⟨by decide, by decide⟩, by decide +kernel⟩, uw_981⟩
theorem uw_1292 : Cond.methodLink "BoreplanLaw" 139 ⟨"BoreplanModel", "startByRounds", "(II)I"⟩ ∈ bp_UW := bp_uw 1292 (by decide +kernel) (by decide +kernel)
theorem uw_1293 : Cond.instanceMethod ⟨"BoreplanModel", "startByRounds", "(II)I"⟩ ∈ bp_UW := bp_uw 1293 (by decide +kernel) (by decide +kernel)
theorem uw_1294 : Cond.selects "BoreplanModel" ⟨"BoreplanModel", "startByRounds", "(II)I"⟩ ⟨"BoreplanModel", "startByRounds", "(II)I"⟩ ∈ bp_UW := bp_uw 1294 (by decide +kernel) (by decide +kernel)
theorem ml_L_139 : bp_MV RL 139 mX6_startByRounds 2 RX6 := ⟨⟨uw_1292, uw_52, cw_X6_startByRounds, ⟨by decide, by decide⟩, by decide +kernel⟩, rfl, uw_1293, uw_1294⟩
theorem uw_999 : Cond.methodLink "BoreplanLaw" 140 ⟨"BoreplanLaw", "lateness", "(LBoreplan;I[J)I"⟩ ∈ bp_UW := bp_uw 999 (by decide +kernel) (by decide +kernel)
theorem uw_1000 : Cond.static ⟨"BoreplanLaw", "lateness", "(LBoreplan;I[J)I"⟩ ∈ bp_UW := bp_uw 1000 (by decide +kernel) (by decide +kernel)
theorem ml_L_140 : bp_MS RL 140 mL_lateness 3 := ⟨⟨uw_999, uw_45, cw_L_lateness, ⟨by decide, by decide⟩, by decide +kernel⟩, uw_1000⟩
theorem uw_1296 : Cond.methodLink "BoreplanLaw" 142 ⟨"BoreplanModel", "lateness", "(I)I"⟩ ∈ bp_UW := bp_uw 1296 (by decide +kernel) (by decide +kernel)
theorem uw_1297 : Cond.instanceMethod ⟨"BoreplanModel", "lateness", "(I)I"⟩ ∈ bp_UW := bp_uw 1297 (by decide +kernel) (by decide +kernel)
theorem uw_1298 : Cond.selects "BoreplanModel" ⟨"BoreplanModel", "lateness", "(I)I"⟩ ⟨"BoreplanModel", "lateness", "(I)I"⟩ ∈ bp_UW := bp_uw 1298 (by decide +kernel) (by decide +kernel)
theorem ml_L_142 : bp_MV RL 142 mX6_lateness 1 RX6 := ⟨⟨uw_1296, uw_52, cw_X6_lateness, ⟨by decide, by decide⟩, by decide +kernel⟩, rfl, uw_1297, uw_1298⟩
theorem uw_157 : Cond.methodLink "BoreplanLaw" 143 ⟨"Boreplan", "span", "()I"⟩ ∈ bp_UW := bp_uw 157 (by decide +kernel) (by decide +kernel)
theorem uw_158 : Cond.instanceMethod ⟨"Boreplan", "span", "()I"⟩ ∈ bp_UW := bp_uw 158 (by decide +kernel) (by decide +kernel)
theorem uw_159 : Cond.selects "Boreplan" ⟨"Boreplan", "span", "()I"⟩ ⟨"Boreplan", "span", "()I"⟩ ∈ bp_UW := bp_uw 159 (by decide +kernel) (by decide +kernel)
theorem ml_L_143 : bp_MV RL 143 mX5_span 0 RX5 := ⟨⟨uw_157, uw_46, cw_X5_span, ⟨by decide, by decide⟩, by decide +kernel⟩, rfl, uw_158, uw_159⟩
theorem uw_1300 : Cond.methodLink "BoreplanLaw" 146 ⟨"BoreplanModel", "span", "()I"⟩ ∈ bp_UW := bp_uw 1300 (by decide +kernel) (by decide +kernel)
theorem uw_1301 : Cond.instanceMethod ⟨"BoreplanModel", "span", "()I"⟩ ∈ bp_UW := bp_uw 1301 (by decide +kernel) (by decide +kernel)
theorem uw_1302 : Cond.selects "BoreplanModel" ⟨"BoreplanModel", "span", "()I"⟩ ⟨"BoreplanModel", "span", "()I"⟩ ∈ bp_UW := bp_uw 1302 (by decide +kernel) (by decide +kernel)
theorem ml_L_146 : bp_MV RL 146 mX6_span 0 RX6 := ⟨⟨uw_1300, uw_52, cw_X6_span, ⟨by decide, by decide⟩, by decide +kernel⟩, rfl, uw_1301, uw_1302⟩
theorem uw_1007 : Cond.methodLink "BoreplanLaw" 147 ⟨"BoreplanLaw", "slack", "(LBoreplan;II[J)I"⟩ ∈ bp_UW := bp_uw 1007 (by decide +kernel) (by decide +kernel)
theorem uw_1008 : Cond.static ⟨"BoreplanLaw", "slack", "(LBoreplan;II[J)I"⟩ ∈ bp_UW := bp_uw 1008 (by decide +kernel) (by decide +kernel)
theorem ml_L_147 : bp_MS RL 147 mL_slack 4 := ⟨⟨uw_1007, uw_45, cw_L_slack, ⟨by decide, by decide⟩, by decide +kernel⟩, uw_1008⟩
theorem uw_1304 : Cond.methodLink "BoreplanLaw" 149 ⟨"BoreplanModel", "slack", "(II)I"⟩ ∈ bp_UW := bp_uw 1304 (by decide +kernel) (by decide +kernel)
theorem uw_1305 : Cond.instanceMethod ⟨"BoreplanModel", "slack", "(II)I"⟩ ∈ bp_UW := bp_uw 1305 (by decide +kernel) (by decide +kernel)
theorem uw_1306 : Cond.selects "BoreplanModel" ⟨"BoreplanModel", "slack", "(II)I"⟩ ⟨"BoreplanModel", "slack", "(II)I"⟩ ∈ bp_UW := bp_uw 1306 (by decide +kernel) (by decide +kernel)
theorem ml_L_149 : bp_MV RL 149 mX6_slack 2 RX6 := ⟨⟨uw_1304, uw_52, cw_X6_slack, ⟨by decide, by decide⟩, by decide +kernel⟩, rfl, uw_1305, uw_1306⟩
theorem uw_161 : Cond.methodLink "BoreplanLaw" 150 ⟨"Boreplan", "criticals", "()I"⟩ ∈ bp_UW := bp_uw 161 (by decide +kernel) (by decide +kernel)
theorem uw_162 : Cond.instanceMethod ⟨"Boreplan", "criticals", "()I"⟩ ∈ bp_UW := bp_uw 162 (by decide +kernel) (by decide +kernel)
theorem uw_163 : Cond.selects "Boreplan" ⟨"Boreplan", "criticals", "()I"⟩ ⟨"Boreplan", "criticals", "()I"⟩ ∈ bp_UW := bp_uw 163 (by decide +kernel) (by decide +kernel)
theorem ml_L_150 : bp_MV RL 150 mX5_criticals 0 RX5 := ⟨⟨uw_161, uw_46, cw_X5_criticals, ⟨by decide, by decide⟩, by decide +kernel⟩, rfl, uw_162, uw_163⟩
theorem uw_1317 : Cond.methodLink "BoreplanLaw" 153 ⟨"BoreplanModel", "criticals", "()I"⟩ ∈ bp_UW := bp_uw 1317 (by decide +kernel) (by decide +kernel)
theorem uw_1318 : Cond.instanceMethod ⟨"BoreplanModel", "criticals", "()I"⟩ ∈ bp_UW := bp_uw 1318 (by decide +kernel) (by decide +kernel)
theorem uw_1319 : Cond.selects "BoreplanModel" ⟨"BoreplanModel", "criticals", "()I"⟩ ⟨"BoreplanModel", "criticals", "()I"⟩ ∈ bp_UW := bp_uw 1319 (by decide +kernel) (by decide +kernel)
theorem ml_L_153 : bp_MV RL 153 mX6_criticals 0 RX6 := ⟨⟨uw_1317, uw_52, cw_X6_criticals, ⟨by decide, by decide⟩, by decide +kernel⟩, rfl, uw_1318, uw_1319⟩
theorem uw_1027 : Cond.methodLink "BoreplanLaw" 154 ⟨"BoreplanLaw", "criticalAt", "(LBoreplan;I[J)I"⟩ ∈ bp_UW := bp_uw 1027 (by decide +kernel) (by decide +kernel)
theorem uw_1028 : Cond.static ⟨"BoreplanLaw", "criticalAt", "(LBoreplan;I[J)I"⟩ ∈ bp_UW := bp_uw 1028 (by decide +kernel) (by decide +kernel)
theorem ml_L_154 : bp_MS RL 154 mL_criticalAt 3 := ⟨⟨uw_1027, uw_45, cw_L_criticalAt, ⟨by decide, by decide⟩, by decide +kernel⟩, uw_1028⟩
theorem uw_1325 : Cond.methodLink "BoreplanLaw" 156 ⟨"BoreplanModel", "criticalAt", "(I)I"⟩ ∈ bp_UW := bp_uw 1325 (by decide +kernel) (by decide +kernel)
theorem uw_1326 : Cond.instanceMethod ⟨"BoreplanModel", "criticalAt", "(I)I"⟩ ∈ bp_UW := bp_uw 1326 (by decide +kernel) (by decide +kernel)
theorem uw_1327 : Cond.selects "BoreplanModel" ⟨"BoreplanModel", "criticalAt", "(I)I"⟩ ⟨"BoreplanModel", "criticalAt", "(I)I"⟩ ∈ bp_UW := bp_uw 1327 (by decide +kernel) (by decide +kernel)
theorem ml_L_156 : bp_MV RL 156 mX6_criticalAt 1 RX6 := ⟨⟨uw_1325, uw_52, cw_X6_criticalAt, ⟨by decide, by decide⟩, by decide +kernel⟩, rfl, uw_1326, uw_1327⟩
theorem uw_1034 : Cond.methodLink "BoreplanLaw" 157 ⟨"BoreplanLaw", "setups", "(LBoreplan;I[J)I"⟩ ∈ bp_UW := bp_uw 1034 (by decide +kernel) (by decide +kernel)
theorem uw_1035 : Cond.static ⟨"BoreplanLaw", "setups", "(LBoreplan;I[J)I"⟩ ∈ bp_UW := bp_uw 1035 (by decide +kernel) (by decide +kernel)
theorem ml_L_157 : bp_MS RL 157 mL_setups 3 := ⟨⟨uw_1034, uw_45, cw_L_setups, ⟨by decide, by decide⟩, by decide +kernel⟩, uw_1035⟩
theorem uw_1329 : Cond.methodLink "BoreplanLaw" 159 ⟨"BoreplanModel", "setups", "(I)I"⟩ ∈ bp_UW := bp_uw 1329 (by decide +kernel) (by decide +kernel)
theorem uw_1330 : Cond.instanceMethod ⟨"BoreplanModel", "setups", "(I)I"⟩ ∈ bp_UW := bp_uw 1330 (by decide +kernel) (by decide +kernel)
theorem uw_1331 : Cond.selects "BoreplanModel" ⟨"BoreplanModel", "setups", "(I)I"⟩ ⟨"BoreplanModel", "setups", "(I)I"⟩ ∈ bp_UW := bp_uw 1331 (by decide +kernel) (by decide +kernel)
theorem ml_L_159 : bp_MV RL 159 mX6_setups 1 RX6 := ⟨⟨uw_1329, uw_52, cw_X6_setups, ⟨by decide, by decide⟩, by decide +kernel⟩, rfl, uw_1330, uw_1331⟩
theorem uw_1049 : Cond.methodLink "BoreplanLaw" 160 ⟨"BoreplanLaw", "loads", "(LBoreplan;I[J)I"⟩ ∈ bp_UW := bp_uw 1049 (by decide +kernel) (by decide +kernel)
theorem uw_1050 : Cond.static ⟨"BoreplanLaw", "loads", "(LBoreplan;I[J)I"⟩ ∈ bp_UW := bp_uw 1050 (by decide +kernel) (by decide +kernel)
theorem ml_L_160 : bp_MS RL 160 mL_loads 3 := ⟨⟨uw_1049, uw_45, cw_L_loads, ⟨by decide, by decide⟩, by decide +kernel⟩, uw_1050⟩
theorem uw_1333 : Cond.methodLink "BoreplanLaw" 162 ⟨"BoreplanModel", "loads", "(I)I"⟩ ∈ bp_UW := bp_uw 1333 (by decide +kernel) (by decide +kernel)
theorem uw_1334 : Cond.instanceMethod ⟨"BoreplanModel", "loads", "(I)I"⟩ ∈ bp_UW := bp_uw 1334 (by decide +kernel) (by decide +kernel)
theorem uw_1335 : Cond.selects "BoreplanModel" ⟨"BoreplanModel", "loads", "(I)I"⟩ ⟨"BoreplanModel", "loads", "(I)I"⟩ ∈ bp_UW := bp_uw 1335 (by decide +kernel) (by decide +kernel)
theorem ml_L_162 : bp_MV RL 162 mX6_loads 1 RX6 := ⟨⟨uw_1333, uw_52, cw_X6_loads, ⟨by decide, by decide⟩, by decide +kernel⟩, rfl, uw_1334, uw_1335⟩
theorem uw_94 : Cond.methodLink "java/util/ArrayList" 1 ⟨"java/util/AbstractList", "<init>", "()V"⟩ ∈ bp_UW := bp_uw 94 (by decide +kernel) (by decide +kernel)
theorem uw_49 : Cond.initialized "java/util/AbstractList" ∈ bp_UW := bp_uw 49 (by decide +kernel) (by decide +kernel)
theorem uw_95 : Cond.instanceMethod ⟨"java/util/AbstractList", "<init>", "()V"⟩ ∈ bp_UW := bp_uw 95 (by decide +kernel) (by decide +kernel)
theorem ml_Jx4a65c_1 : bp_MI RJx4a65c 1 mJxc12de_init_da8c8 0 := ⟨⟨uw_94, uw_49, cw_Jxc12de_init_da8c8, ⟨by decide, by decide⟩, by decide +kernel⟩, rfl, rfl, rfl, uw_95⟩
theorem uw_101 : Cond.fieldLink "java/util/ArrayList" 39 "java/util/ArrayList" "DEFAULTCAPACITY_EMPTY_ELEMENTDATA" "[Ljava/lang/Object;" ∈ bp_UW := bp_uw 101 (by decide +kernel) (by decide +kernel)
theorem gs_Jx4a65c_39 : Cond.fieldLink "java/util/ArrayList" 39 "java/util/ArrayList" "DEFAULTCAPACITY_EMPTY_ELEMENTDATA" "[Ljava/lang/Object;" ∈ bp_UW := uw_101
theorem uw_103 : Cond.fieldLink "java/util/ArrayList" 9 "java/util/ArrayList" "elementData" "[Ljava/lang/Object;" ∈ bp_UW := bp_uw 103 (by decide +kernel) (by decide +kernel)
theorem fl_Jx4a65c_9 : bp_FL RJx4a65c 9 7 1 (.array (.object "java/lang/Object")) (some false) := ⟨RJx4a65c, TJx4a65c, 3, "java/util/ArrayList", tyJx4a65c, rfl, by decide, uc_Jx4a65c, tyJx4a65c_ok, nmJx4a65c, uw_103, Or.inl rfl, rfl, (fun _ => rfl), (fun h => by cases h)⟩
theorem uw_213 : Cond.methodLink "java/util/ArrayList" 73 ⟨"jdk/internal/util/ArraysSupport", "newLength", "(III)I"⟩ ∈ bp_UW := bp_uw 213 (by decide +kernel) (by decide +kernel)
theorem uw_58 : Cond.initialized "jdk/internal/util/ArraysSupport" ∈ bp_UW := bp_uw 58 (by decide +kernel) (by decide +kernel)
theorem uw_214 : Cond.static ⟨"jdk/internal/util/ArraysSupport", "newLength", "(III)I"⟩ ∈ bp_UW := bp_uw 214 (by decide +kernel) (by decide +kernel)
theorem ml_Jx4a65c_73 : bp_MS RJx4a65c 73 mJ8_newLength_cabcc 3 := ⟨⟨uw_213, uw_58, cw_J8_newLength_cabcc, ⟨by decide, by decide⟩, by decide +kernel⟩, uw_214⟩
theorem uw_223 : Cond.methodLink "java/util/ArrayList" 66 ⟨"java/util/Arrays", "copyOf", "([Ljava/lang/Object;I)[Ljava/lang/Object;"⟩ ∈ bp_UW := bp_uw 223 (by decide +kernel) (by decide +kernel)
theorem uw_60 : Cond.initialized "java/util/Arrays" ∈ bp_UW := bp_uw 60 (by decide +kernel) (by decide +kernel)
theorem uw_224 : Cond.static ⟨"java/util/Arrays", "copyOf", "([Ljava/lang/Object;I)[Ljava/lang/Object;"⟩ ∈ bp_UW := bp_uw 224 (by decide +kernel) (by decide +kernel)
theorem ml_Jx4a65c_66 : bp_MS RJx4a65c 66 mJ7_copyOf_1904c 2 := ⟨⟨uw_223, uw_60, cw_J7_copyOf_1904c, ⟨by decide, by decide⟩, by decide +kernel⟩, uw_224⟩
theorem uw_255 : Cond.methodLink "java/util/ArrayList" 79 ⟨"java/lang/Math", "max", "(II)I"⟩ ∈ bp_UW := bp_uw 255 (by decide +kernel) (by decide +kernel)
theorem ml_Jx4a65c_79 : Cond.methodLink "java/util/ArrayList" 79 ⟨"java/lang/Math", "max", "(II)I"⟩ ∈ bp_UW := uw_255
theorem uw_256 : Cond.classLink "java/util/ArrayList" 7 "java/lang/Object" ∈ bp_UW := bp_uw 256 (by decide +kernel) (by decide +kernel)
theorem cl_Jx4a65c_7 : Cond.classLink "java/util/ArrayList" 7 "java/lang/Object" ∈ bp_UW := uw_256
theorem uw_104 : Cond.fieldLink "java/util/ArrayList" 48 "java/util/ArrayList" "size" "I" ∈ bp_UW := bp_uw 104 (by decide +kernel) (by decide +kernel)
theorem fl_Jx4a65c_48 : bp_FL RJx4a65c 48 7 2 (.int) (some false) := ⟨RJx4a65c, TJx4a65c, 3, "java/util/ArrayList", tyJx4a65c, rfl, by decide, uc_Jx4a65c, tyJx4a65c_ok, nmJx4a65c, uw_104, Or.inl rfl, rfl, (fun _ => rfl), (fun h => by cases h)⟩
theorem uw_209 : Cond.methodLink "java/util/ArrayList" 69 ⟨"java/util/ArrayList", "grow", "(I)[Ljava/lang/Object;"⟩ ∈ bp_UW := bp_uw 209 (by decide +kernel) (by decide +kernel)
theorem uw_211 : Cond.instanceMethod ⟨"java/util/ArrayList", "grow", "(I)[Ljava/lang/Object;"⟩ ∈ bp_UW := bp_uw 211 (by decide +kernel) (by decide +kernel)
theorem uw_3 : Cond.selects "java/util/ArrayList" ⟨"java/util/ArrayList", "grow", "(I)[Ljava/lang/Object;"⟩ ⟨"java/util/ArrayList", "grow", "(I)[Ljava/lang/Object;"⟩ ∈ bp_UW := bp_uw 3 (by decide +kernel) (by decide +kernel)
theorem ml_Jx4a65c_69 : bp_MV RJx4a65c 69 mJx4a65c_grow_92f84 1 RJx4a65c := ⟨⟨uw_209, uw_50, cw_Jx4a65c_grow_92f84, ⟨by decide, by decide⟩, by decide +kernel⟩, rfl, uw_211, uw_3⟩
theorem uw_185 : Cond.methodLink "java/util/ArrayList" 118 ⟨"java/util/Objects", "checkIndex", "(II)I"⟩ ∈ bp_UW := bp_uw 185 (by decide +kernel) (by decide +kernel)
theorem uw_63 : Cond.initialized "java/util/Objects" ∈ bp_UW := bp_uw 63 (by decide +kernel) (by decide +kernel)
theorem uw_186 : Cond.static ⟨"java/util/Objects", "checkIndex", "(II)I"⟩ ∈ bp_UW := bp_uw 186 (by decide +kernel) (by decide +kernel)
theorem ml_Jx4a65c_118 : bp_MS RJx4a65c 118 mJ15_checkIndex_7cf53 2 := ⟨⟨uw_185, uw_63, cw_J15_checkIndex_7cf53, ⟨by decide, by decide⟩, by decide +kernel⟩, uw_186⟩
theorem uw_191 : Cond.methodLink "java/util/ArrayList" 123 ⟨"java/util/ArrayList", "elementData", "(I)Ljava/lang/Object;"⟩ ∈ bp_UW := bp_uw 191 (by decide +kernel) (by decide +kernel)
theorem uw_192 : Cond.instanceMethod ⟨"java/util/ArrayList", "elementData", "(I)Ljava/lang/Object;"⟩ ∈ bp_UW := bp_uw 192 (by decide +kernel) (by decide +kernel)
theorem uw_193 : Cond.selects "java/util/ArrayList" ⟨"java/util/ArrayList", "elementData", "(I)Ljava/lang/Object;"⟩ ⟨"java/util/ArrayList", "elementData", "(I)Ljava/lang/Object;"⟩ ∈ bp_UW := bp_uw 193 (by decide +kernel) (by decide +kernel)
theorem ml_Jx4a65c_123 : bp_MV RJx4a65c 123 mJx4a65c_elementData_915e3 1 RJx4a65c := ⟨⟨uw_191, uw_50, cw_Jx4a65c_elementData_915e3, ⟨by decide, by decide⟩, by decide +kernel⟩, rfl, uw_192, uw_193⟩
theorem uw_205 : Cond.methodLink "java/util/ArrayList" 129 ⟨"java/util/ArrayList", "grow", "()[Ljava/lang/Object;"⟩ ∈ bp_UW := bp_uw 205 (by decide +kernel) (by decide +kernel)
theorem uw_207 : Cond.instanceMethod ⟨"java/util/ArrayList", "grow", "()[Ljava/lang/Object;"⟩ ∈ bp_UW := bp_uw 207 (by decide +kernel) (by decide +kernel)
theorem uw_2 : Cond.selects "java/util/ArrayList" ⟨"java/util/ArrayList", "grow", "()[Ljava/lang/Object;"⟩ ⟨"java/util/ArrayList", "grow", "()[Ljava/lang/Object;"⟩ ∈ bp_UW := bp_uw 2 (by decide +kernel) (by decide +kernel)
theorem ml_Jx4a65c_129 : bp_MV RJx4a65c 129 mJx4a65c_grow_d5877 0 RJx4a65c := ⟨⟨uw_205, uw_50, cw_Jx4a65c_grow_d5877, ⟨by decide, by decide⟩, by decide +kernel⟩, rfl, uw_207, uw_2⟩
theorem uw_107 : Cond.sameField "java/util/ArrayList" "java/util/AbstractList" "modCount" "I" ∈ bp_UW := bp_uw 107 (by decide +kernel) (by decide +kernel)
theorem uw_106 : Cond.fieldLink "java/util/ArrayList" 63 "java/util/ArrayList" "modCount" "I" ∈ bp_UW := bp_uw 106 (by decide +kernel) (by decide +kernel)
theorem fl_Jx4a65c_63 : bp_FL RJx4a65c 63 7 0 (.int) (some false) := ⟨RJx4a65c, TJx4a65c, 3, "java/util/ArrayList", tyJx4a65c, rfl, by decide, uc_Jx4a65c, tyJx4a65c_ok, nmJx4a65c, uw_106, Or.inr uw_107, rfl, (fun _ => rfl), (fun h => by cases h)⟩
theorem uw_201 : Cond.methodLink "java/util/ArrayList" 131 ⟨"java/util/ArrayList", "add", "(Ljava/lang/Object;[Ljava/lang/Object;I)V"⟩ ∈ bp_UW := bp_uw 201 (by decide +kernel) (by decide +kernel)
theorem uw_203 : Cond.instanceMethod ⟨"java/util/ArrayList", "add", "(Ljava/lang/Object;[Ljava/lang/Object;I)V"⟩ ∈ bp_UW := bp_uw 203 (by decide +kernel) (by decide +kernel)
theorem uw_1 : Cond.selects "java/util/ArrayList" ⟨"java/util/ArrayList", "add", "(Ljava/lang/Object;[Ljava/lang/Object;I)V"⟩ ⟨"java/util/ArrayList", "add", "(Ljava/lang/Object;[Ljava/lang/Object;I)V"⟩ ∈ bp_UW := bp_uw 1 (by decide +kernel) (by decide +kernel)
theorem ml_Jx4a65c_131 : bp_MV RJx4a65c 131 mJx4a65c_add_72be8 3 RJx4a65c := ⟨⟨uw_201, uw_50, cw_Jx4a65c_add_72be8, ⟨by decide, by decide⟩, by decide +kernel⟩, rfl, uw_203, uw_1⟩
theorem uw_641 : Cond.methodLink "java/util/ArrayList" 135 ⟨"java/util/ArrayList", "rangeCheckForAdd", "(I)V"⟩ ∈ bp_UW := bp_uw 641 (by decide +kernel) (by decide +kernel)
theorem uw_643 : Cond.instanceMethod ⟨"java/util/ArrayList", "rangeCheckForAdd", "(I)V"⟩ ∈ bp_UW := bp_uw 643 (by decide +kernel) (by decide +kernel)
theorem uw_13 : Cond.selects "java/util/ArrayList" ⟨"java/util/ArrayList", "rangeCheckForAdd", "(I)V"⟩ ⟨"java/util/ArrayList", "rangeCheckForAdd", "(I)V"⟩ ∈ bp_UW := bp_uw 13 (by decide +kernel) (by decide +kernel)
theorem ml_Jx4a65c_135 : bp_MV RJx4a65c 135 mJx4a65c_rangeCheckForAdd_d00df 1 RJx4a65c := ⟨⟨uw_641, uw_50, cw_Jx4a65c_rangeCheckForAdd_d00df, ⟨by decide, by decide⟩, by decide +kernel⟩, rfl, uw_643, uw_13⟩
theorem uw_882 : Cond.methodLink "java/util/ArrayList" 112 ⟨"java/lang/System", "arraycopy", "(Ljava/lang/Object;ILjava/lang/Object;II)V"⟩ ∈ bp_UW := bp_uw 882 (by decide +kernel) (by decide +kernel)
theorem ml_Jx4a65c_112 : Cond.methodLink "java/util/ArrayList" 112 ⟨"java/lang/System", "arraycopy", "(Ljava/lang/Object;ILjava/lang/Object;II)V"⟩ ∈ bp_UW := uw_882
theorem uw_912 : Cond.methodLink "java/util/ArrayList" 144 ⟨"java/util/ArrayList", "fastRemove", "([Ljava/lang/Object;I)V"⟩ ∈ bp_UW := bp_uw 912 (by decide +kernel) (by decide +kernel)
theorem uw_914 : Cond.instanceMethod ⟨"java/util/ArrayList", "fastRemove", "([Ljava/lang/Object;I)V"⟩ ∈ bp_UW := bp_uw 914 (by decide +kernel) (by decide +kernel)
theorem uw_16 : Cond.selects "java/util/ArrayList" ⟨"java/util/ArrayList", "fastRemove", "([Ljava/lang/Object;I)V"⟩ ⟨"java/util/ArrayList", "fastRemove", "([Ljava/lang/Object;I)V"⟩ ∈ bp_UW := bp_uw 16 (by decide +kernel) (by decide +kernel)
theorem ml_Jx4a65c_144 : bp_MV RJx4a65c 144 mJx4a65c_fastRemove_b59b0 2 RJx4a65c := ⟨⟨uw_912, uw_50, cw_Jx4a65c_fastRemove_b59b0, ⟨by decide, by decide⟩, by decide +kernel⟩, rfl, uw_914, uw_16⟩
theorem uw_100 : Cond.methodLink "java/util/AbstractCollection" 1 ⟨"java/lang/Object", "<init>", "()V"⟩ ∈ bp_UW := bp_uw 100 (by decide +kernel) (by decide +kernel)
theorem ml_Jxa1e45_1 : Cond.methodLink "java/util/AbstractCollection" 1 ⟨"java/lang/Object", "<init>", "()V"⟩ ∈ bp_UW := uw_100
theorem uw_97 : Cond.methodLink "java/util/AbstractList" 1 ⟨"java/util/AbstractCollection", "<init>", "()V"⟩ ∈ bp_UW := bp_uw 97 (by decide +kernel) (by decide +kernel)
theorem uw_48 : Cond.initialized "java/util/AbstractCollection" ∈ bp_UW := bp_uw 48 (by decide +kernel) (by decide +kernel)
theorem uw_98 : Cond.instanceMethod ⟨"java/util/AbstractCollection", "<init>", "()V"⟩ ∈ bp_UW := bp_uw 98 (by decide +kernel) (by decide +kernel)
theorem ml_Jxc12de_1 : bp_MI RJxc12de 1 mJxa1e45_init_da8c8 0 := ⟨⟨uw_97, uw_48, cw_Jxa1e45_init_da8c8, ⟨by decide, by decide⟩, by decide +kernel⟩, rfl, rfl, rfl, uw_98⟩
theorem uw_105 : Cond.fieldLink "java/util/AbstractList" 7 "java/util/AbstractList" "modCount" "I" ∈ bp_UW := bp_uw 105 (by decide +kernel) (by decide +kernel)
theorem fl_Jxc12de_7 : bp_FL RJxc12de 7 7 0 (.int) (some false) := ⟨RJx4a65c, TJx4a65c, 3, "java/util/AbstractList", tyJx4a65c, rfl, by decide, uc_Jx4a65c, tyJx4a65c_ok, nmJx4a65c, uw_105, Or.inl rfl, rfl, (fun _ => rfl), (fun h => by cases h)⟩
theorem uw_188 : Cond.methodLink "java/util/Objects" 105 ⟨"jdk/internal/util/Preconditions", "checkIndex", "(IILjava/util/function/BiFunction;)I"⟩ ∈ bp_UW := bp_uw 188 (by decide +kernel) (by decide +kernel)
theorem uw_64 : Cond.initialized "jdk/internal/util/Preconditions" ∈ bp_UW := bp_uw 64 (by decide +kernel) (by decide +kernel)
theorem uw_189 : Cond.static ⟨"jdk/internal/util/Preconditions", "checkIndex", "(IILjava/util/function/BiFunction;)I"⟩ ∈ bp_UW := bp_uw 189 (by decide +kernel) (by decide +kernel)
theorem ml_J15_105 : bp_MS RJ15 105 mJ3_checkIndex_8e157 3 := ⟨⟨uw_188, uw_64, cw_J3_checkIndex_8e157, ⟨by decide, by decide⟩, by decide +kernel⟩, uw_189⟩
theorem uw_216 : Cond.methodLink "jdk/internal/util/ArraysSupport" 194 ⟨"java/lang/Math", "max", "(II)I"⟩ ∈ bp_UW := bp_uw 216 (by decide +kernel) (by decide +kernel)
theorem ml_J8_194 : Cond.methodLink "jdk/internal/util/ArraysSupport" 194 ⟨"java/lang/Math", "max", "(II)I"⟩ ∈ bp_UW := uw_216
theorem uw_219 : Cond.constant "jdk/internal/util/ArraysSupport" 200 (2147483639 : Int32) ∈ bp_UW := bp_uw 219 (by decide +kernel) (by decide +kernel)
theorem kc_J8_200 : Cond.constant "jdk/internal/util/ArraysSupport" 200 (2147483639 : Int32) ∈ bp_UW := uw_219
theorem uw_248 : Cond.classLink "java/util/Arrays" 2 "java/lang/Object" ∈ bp_UW := bp_uw 248 (by decide +kernel) (by decide +kernel)
theorem cl_J7_2 : Cond.classLink "java/util/Arrays" 2 "java/lang/Object" ∈ bp_UW := uw_248
theorem uw_246 : Cond.classLink "java/util/Arrays" 110 "[Ljava/lang/Object;" ∈ bp_UW := bp_uw 246 (by decide +kernel) (by decide +kernel)
theorem cl_J7_110 : Cond.classLink "java/util/Arrays" 110 "[Ljava/lang/Object;" ∈ bp_UW := uw_246
theorem uw_249 : Cond.methodLink "java/util/Arrays" 304 ⟨"java/lang/Math", "min", "(II)I"⟩ ∈ bp_UW := bp_uw 249 (by decide +kernel) (by decide +kernel)
theorem ml_J7_304 : Cond.methodLink "java/util/Arrays" 304 ⟨"java/lang/Math", "min", "(II)I"⟩ ∈ bp_UW := uw_249
theorem uw_252 : Cond.methodLink "java/util/Arrays" 150 ⟨"java/lang/System", "arraycopy", "(Ljava/lang/Object;ILjava/lang/Object;II)V"⟩ ∈ bp_UW := bp_uw 252 (by decide +kernel) (by decide +kernel)
theorem ml_J7_150 : Cond.methodLink "java/util/Arrays" 150 ⟨"java/lang/System", "arraycopy", "(Ljava/lang/Object;ILjava/lang/Object;II)V"⟩ ∈ bp_UW := uw_252
theorem uw_226 : Cond.methodLink "java/util/Arrays" 86 ⟨"java/lang/Object", "getClass", "()Ljava/lang/Class;"⟩ ∈ bp_UW := bp_uw 226 (by decide +kernel) (by decide +kernel)
theorem ml_J7_86 : Cond.methodLink "java/util/Arrays" 86 ⟨"java/lang/Object", "getClass", "()Ljava/lang/Class;"⟩ ∈ bp_UW := uw_226
theorem uw_243 : Cond.methodLink "java/util/Arrays" 300 ⟨"java/util/Arrays", "copyOf", "([Ljava/lang/Object;ILjava/lang/Class;)[Ljava/lang/Object;"⟩ ∈ bp_UW := bp_uw 243 (by decide +kernel) (by decide +kernel)
theorem uw_244 : Cond.static ⟨"java/util/Arrays", "copyOf", "([Ljava/lang/Object;ILjava/lang/Class;)[Ljava/lang/Object;"⟩ ∈ bp_UW := bp_uw 244 (by decide +kernel) (by decide +kernel)
theorem ml_J7_300 : bp_MS RJ7 300 mJ7_copyOf_6403c 3 := ⟨⟨uw_243, uw_60, cw_J7_copyOf_6403c, ⟨by decide, by decide⟩, by decide +kernel⟩, uw_244⟩
theorem uw_81 : Cond.instanceMethod ⟨"java/lang/Object", "<init>", "()V"⟩ ∈ bp_UW := bp_uw 81 (by decide +kernel) (by decide +kernel)
theorem ow_1 : Cond.instanceMethod Lib.objectInit ∈ bp_UW := uw_81
theorem ow_2 : Cond.code Lib.objectInit ⟨#[0xb1]⟩ 1 none ∈ bp_UW := bp_uw 82 (by decide +kernel) (by decide +kernel)
theorem uw_217 : Cond.static ⟨"java/lang/Math", "max", "(II)I"⟩ ∈ bp_UW := bp_uw 217 (by decide +kernel) (by decide +kernel)
theorem uw_59 : Cond.initialized "java/lang/Math" ∈ bp_UW := bp_uw 59 (by decide +kernel) (by decide +kernel)
theorem mw_max : Cond.static Lib.Math.max.name ∈ bp_UW ∧ Cond.initialized "java/lang/Math" ∈ bp_UW ∧ Cond.code Lib.Math.max.name Lib.Math.max.code 2 (some .int) ∈ bp_UW := ⟨uw_217, uw_59, bp_uw 218 (by decide +kernel) (by decide +kernel)⟩
theorem uw_250 : Cond.static ⟨"java/lang/Math", "min", "(II)I"⟩ ∈ bp_UW := bp_uw 250 (by decide +kernel) (by decide +kernel)
theorem mw_min : Cond.static Lib.Math.min.name ∈ bp_UW ∧ Cond.initialized "java/lang/Math" ∈ bp_UW ∧ Cond.code Lib.Math.min.name Lib.Math.min.code 2 (some .int) ∈ bp_UW := ⟨uw_250, uw_59, bp_uw 251 (by decide +kernel) (by decide +kernel)⟩
theorem aw_0 : Cond.arrayClass (bp_ty 0) ∈ bp_UW := by decide +kernel
theorem aw_1 : Cond.arrayClass (bp_ty 1) ∈ bp_UW := by decide +kernel
theorem aw_2 : Cond.arrayClass (bp_ty 2) ∈ bp_UW := by decide +kernel
theorem uw_1360 : Cond.castable "Boreplan$Job" "java/lang/Object" ∈ bp_UW := bp_uw 1360 (by decide +kernel) (by decide +kernel)
theorem an_0 : bp_any 0 := ⟨RX0, TX0, 5, rfl, uw_1360⟩
theorem uw_1357 : Cond.castable "Boreplan$Machine" "java/lang/Object" ∈ bp_UW := bp_uw 1357 (by decide +kernel) (by decide +kernel)
theorem an_1 : bp_any 1 := ⟨RX1, TX1, 7, rfl, uw_1357⟩
theorem uw_1361 : Cond.castable "Boreplan$Operation" "java/lang/Object" ∈ bp_UW := bp_uw 1361 (by decide +kernel) (by decide +kernel)
theorem an_2 : bp_any 2 := ⟨RX2, TX2, 14, rfl, uw_1361⟩
theorem ta_26_30 : ∀ w ∈ vx_atS RX5 30 "java/lang/IllegalStateException" ["java/lang/RuntimeException", "java/lang/Exception"], w ∈ bp_UW := by
  have h1 : ((vx_atS RX5 30 "java/lang/IllegalStateException" ["java/lang/RuntimeException", "java/lang/Exception"]).all (fun w => decide (w ∈ lw_tbl) && bp_good w)) = true := by decide +kernel
  intro w hw
  have h2 := List.all_eq_true.mp h1 w hw
  simp only [Bool.and_eq_true, decide_eq_true_eq] at h2
  exact List.mem_filter.mpr h2
theorem tb_26_30 : ∀ w ∈ Cond.classLink RX5 26 "java/lang/IllegalStateException" :: Cond.initialized "java/lang/IllegalStateException" :: vx_atS RX5 30 "java/lang/IllegalStateException" ["java/lang/RuntimeException", "java/lang/Exception"], vx_ot w = true := by
  have h1 : ((Cond.classLink RX5 26 "java/lang/IllegalStateException" :: Cond.initialized "java/lang/IllegalStateException" :: vx_atS RX5 30 "java/lang/IllegalStateException" ["java/lang/RuntimeException", "java/lang/Exception"]).all vx_ot) = true := by decide +kernel
  exact List.all_eq_true.mp h1
theorem uw_274 : Cond.classLink "Boreplan" 26 "java/lang/IllegalStateException" ∈ bp_UW := bp_uw 274 (by decide +kernel) (by decide +kernel)
theorem uw_56 : Cond.initialized "java/lang/IllegalStateException" ∈ bp_UW := bp_uw 56 (by decide +kernel) (by decide +kernel)
theorem tw_26_28_30 : bp_TW RX5 26 28 30 "java/lang/IllegalStateException" "there are 4 machines" ["java/lang/RuntimeException", "java/lang/Exception"] := ⟨by decide +kernel, by decide +kernel, by decide, uw_274, uw_56, by decide +kernel, ta_26_30, tb_26_30⟩
theorem ta_44_48 : ∀ w ∈ vx_atS RX5 48 "java/lang/IllegalArgumentException" ["java/lang/RuntimeException", "java/lang/Exception"], w ∈ bp_UW := by
  have h1 : ((vx_atS RX5 48 "java/lang/IllegalArgumentException" ["java/lang/RuntimeException", "java/lang/Exception"]).all (fun w => decide (w ∈ lw_tbl) && bp_good w)) = true := by decide +kernel
  intro w hw
  have h2 := List.all_eq_true.mp h1 w hw
  simp only [Bool.and_eq_true, decide_eq_true_eq] at h2
  exact List.mem_filter.mpr h2
theorem tb_44_48 : ∀ w ∈ Cond.classLink RX5 44 "java/lang/IllegalArgumentException" :: Cond.initialized "java/lang/IllegalArgumentException" :: vx_atS RX5 48 "java/lang/IllegalArgumentException" ["java/lang/RuntimeException", "java/lang/Exception"], vx_ot w = true := by
  have h1 : ((Cond.classLink RX5 44 "java/lang/IllegalArgumentException" :: Cond.initialized "java/lang/IllegalArgumentException" :: vx_atS RX5 48 "java/lang/IllegalArgumentException" ["java/lang/RuntimeException", "java/lang/Exception"]).all vx_ot) = true := by decide +kernel
  exact List.all_eq_true.mp h1
theorem uw_411 : Cond.classLink "Boreplan" 44 "java/lang/IllegalArgumentException" ∈ bp_UW := bp_uw 411 (by decide +kernel) (by decide +kernel)
theorem uw_65 : Cond.initialized "java/lang/IllegalArgumentException" ∈ bp_UW := bp_uw 65 (by decide +kernel) (by decide +kernel)
theorem tw_44_46_48 : bp_TW RX5 44 46 48 "java/lang/IllegalArgumentException" "capacity is out of range" ["java/lang/RuntimeException", "java/lang/Exception"] := ⟨by decide +kernel, by decide +kernel, by decide, uw_411, uw_65, by decide +kernel, ta_44_48, tb_44_48⟩
theorem tw_26_53_30 : bp_TW RX5 26 53 30 "java/lang/IllegalStateException" "an operation needs more tools" ["java/lang/RuntimeException", "java/lang/Exception"] := ⟨by decide +kernel, by decide +kernel, by decide, uw_274, uw_56, by decide +kernel, ta_26_30, tb_26_30⟩
theorem tw_44_58_48 : bp_TW RX5 44 58 48 "java/lang/IllegalArgumentException" "from is out of range" ["java/lang/RuntimeException", "java/lang/Exception"] := ⟨by decide +kernel, by decide +kernel, by decide, uw_411, uw_65, by decide +kernel, ta_44_48, tb_44_48⟩
theorem tw_44_60_48 : bp_TW RX5 44 60 48 "java/lang/IllegalArgumentException" "to is out of range" ["java/lang/RuntimeException", "java/lang/Exception"] := ⟨by decide +kernel, by decide +kernel, by decide, uw_411, uw_65, by decide +kernel, ta_44_48, tb_44_48⟩
theorem tw_44_79_48 : bp_TW RX5 44 79 48 "java/lang/IllegalArgumentException" "due is out of range" ["java/lang/RuntimeException", "java/lang/Exception"] := ⟨by decide +kernel, by decide +kernel, by decide, uw_411, uw_65, by decide +kernel, ta_44_48, tb_44_48⟩
theorem tw_26_84_30 : bp_TW RX5 26 84 30 "java/lang/IllegalStateException" "there are 8 jobs" ["java/lang/RuntimeException", "java/lang/Exception"] := ⟨by decide +kernel, by decide +kernel, by decide, uw_274, uw_56, by decide +kernel, ta_26_30, tb_26_30⟩
theorem tw_44_95_48 : bp_TW RX5 44 95 48 "java/lang/IllegalArgumentException" "length is out of range" ["java/lang/RuntimeException", "java/lang/Exception"] := ⟨by decide +kernel, by decide +kernel, by decide, uw_411, uw_65, by decide +kernel, ta_44_48, tb_44_48⟩
theorem tw_44_97_48 : bp_TW RX5 44 97 48 "java/lang/IllegalArgumentException" "family is out of range" ["java/lang/RuntimeException", "java/lang/Exception"] := ⟨by decide +kernel, by decide +kernel, by decide, uw_411, uw_65, by decide +kernel, ta_44_48, tb_44_48⟩
theorem tw_44_99_48 : bp_TW RX5 44 99 48 "java/lang/IllegalArgumentException" "tools is out of range" ["java/lang/RuntimeException", "java/lang/Exception"] := ⟨by decide +kernel, by decide +kernel, by decide, uw_411, uw_65, by decide +kernel, ta_44_48, tb_44_48⟩
theorem tw_26_104_30 : bp_TW RX5 26 104 30 "java/lang/IllegalStateException" "the job has 4 operations" ["java/lang/RuntimeException", "java/lang/Exception"] := ⟨by decide +kernel, by decide +kernel, by decide, uw_274, uw_56, by decide +kernel, ta_26_30, tb_26_30⟩
theorem tw_26_109_30 : bp_TW RX5 26 109 30 "java/lang/IllegalStateException" "the job is placed" ["java/lang/RuntimeException", "java/lang/Exception"] := ⟨by decide +kernel, by decide +kernel, by decide, uw_274, uw_56, by decide +kernel, ta_26_30, tb_26_30⟩
theorem tw_26_117_30 : bp_TW RX5 26 117 30 "java/lang/IllegalStateException" "the magazine is too small for the tools" ["java/lang/RuntimeException", "java/lang/Exception"] := ⟨by decide +kernel, by decide +kernel, by decide, uw_274, uw_56, by decide +kernel, ta_26_30, tb_26_30⟩
theorem ta_123_127 : ∀ w ∈ vx_atS RX5 127 "java/lang/IndexOutOfBoundsException" ["java/lang/RuntimeException", "java/lang/Exception"], w ∈ bp_UW := by
  have h1 : ((vx_atS RX5 127 "java/lang/IndexOutOfBoundsException" ["java/lang/RuntimeException", "java/lang/Exception"]).all (fun w => decide (w ∈ lw_tbl) && bp_good w)) = true := by decide +kernel
  intro w hw
  have h2 := List.all_eq_true.mp h1 w hw
  simp only [Bool.and_eq_true, decide_eq_true_eq] at h2
  exact List.mem_filter.mpr h2
theorem tb_123_127 : ∀ w ∈ Cond.classLink RX5 123 "java/lang/IndexOutOfBoundsException" :: Cond.initialized "java/lang/IndexOutOfBoundsException" :: vx_atS RX5 127 "java/lang/IndexOutOfBoundsException" ["java/lang/RuntimeException", "java/lang/Exception"], vx_ot w = true := by
  have h1 : ((Cond.classLink RX5 123 "java/lang/IndexOutOfBoundsException" :: Cond.initialized "java/lang/IndexOutOfBoundsException" :: vx_atS RX5 127 "java/lang/IndexOutOfBoundsException" ["java/lang/RuntimeException", "java/lang/Exception"]).all vx_ot) = true := by decide +kernel
  exact List.all_eq_true.mp h1
theorem uw_394 : Cond.classLink "Boreplan" 123 "java/lang/IndexOutOfBoundsException" ∈ bp_UW := bp_uw 394 (by decide +kernel) (by decide +kernel)
theorem uw_62 : Cond.initialized "java/lang/IndexOutOfBoundsException" ∈ bp_UW := bp_uw 62 (by decide +kernel) (by decide +kernel)
theorem tw_123_125_127 : bp_TW RX5 123 125 127 "java/lang/IndexOutOfBoundsException" "no such family" ["java/lang/RuntimeException", "java/lang/Exception"] := ⟨by decide +kernel, by decide +kernel, by decide, uw_394, uw_62, by decide +kernel, ta_123_127, tb_123_127⟩
theorem tw_44_128_48 : bp_TW RX5 44 128 48 "java/lang/IllegalArgumentException" "minutes is out of range" ["java/lang/RuntimeException", "java/lang/Exception"] := ⟨by decide +kernel, by decide +kernel, by decide, uw_411, uw_65, by decide +kernel, ta_44_48, tb_44_48⟩
theorem tw_123_171_127 : bp_TW RX5 123 171 127 "java/lang/IndexOutOfBoundsException" "no such place or none behind it" ["java/lang/RuntimeException", "java/lang/Exception"] := ⟨by decide +kernel, by decide +kernel, by decide, uw_394, uw_62, by decide +kernel, ta_123_127, tb_123_127⟩
theorem tw_26_177_30 : bp_TW RX5 26 177 30 "java/lang/IllegalStateException" "the order would have a way round" ["java/lang/RuntimeException", "java/lang/Exception"] := ⟨by decide +kernel, by decide +kernel, by decide, uw_274, uw_56, by decide +kernel, ta_26_30, tb_26_30⟩
theorem tw_123_179_127 : bp_TW RX5 123 179 127 "java/lang/IndexOutOfBoundsException" "no such place" ["java/lang/RuntimeException", "java/lang/Exception"] := ⟨by decide +kernel, by decide +kernel, by decide, uw_394, uw_62, by decide +kernel, ta_123_127, tb_123_127⟩
theorem tw_123_228_127 : bp_TW RX5 123 228 127 "java/lang/IndexOutOfBoundsException" "no such machine" ["java/lang/RuntimeException", "java/lang/Exception"] := ⟨by decide +kernel, by decide +kernel, by decide, uw_394, uw_62, by decide +kernel, ta_123_127, tb_123_127⟩
theorem tw_123_230_127 : bp_TW RX5 123 230 127 "java/lang/IndexOutOfBoundsException" "no such job" ["java/lang/RuntimeException", "java/lang/Exception"] := ⟨by decide +kernel, by decide +kernel, by decide, uw_394, uw_62, by decide +kernel, ta_123_127, tb_123_127⟩
theorem tw_26_232_30 : bp_TW RX5 26 232 30 "java/lang/IllegalStateException" "the job is not placed" ["java/lang/RuntimeException", "java/lang/Exception"] := ⟨by decide +kernel, by decide +kernel, by decide, uw_274, uw_56, by decide +kernel, ta_26_30, tb_26_30⟩
theorem tw_26_237_30 : bp_TW RX5 26 237 30 "java/lang/IllegalStateException" "the job has no operations" ["java/lang/RuntimeException", "java/lang/Exception"] := ⟨by decide +kernel, by decide +kernel, by decide, uw_274, uw_56, by decide +kernel, ta_26_30, tb_26_30⟩
theorem tw_123_239_127 : bp_TW RX5 123 239 127 "java/lang/IndexOutOfBoundsException" "no such operation" ["java/lang/RuntimeException", "java/lang/Exception"] := ⟨by decide +kernel, by decide +kernel, by decide, uw_394, uw_62, by decide +kernel, ta_123_127, tb_123_127⟩
end
section
/-! ===== class objects, copies of arrays, lists ===== -/
theorem bp_rde {h : bp_H} {a k : Nat} {v : Value} : (bp_set h a k v).2.1 a k = v := by simp [bp_set]
theorem bp_rdn {h : bp_H} {a k b j : Nat} {v w : Value} (e : j ≠ k) (hv : h.2.1 b j = v) : (bp_set h a k w).2.1 b j = v := by simp [bp_set, e, hv]
theorem bp_rda {h : bp_H} {a k b j : Nat} {v w : Value} (e : b ≠ a) (hv : h.2.1 b j = v) : (bp_set h a k w).2.1 b j = v := by simp [bp_set, e, hv]
/-- elements copied from one array to another or the same -/
def bp_cpy (h : bp_H) (a0 a sp dp n : Nat) : bp_H := (h.1, fun b j => if b = a ∧ 4096 + dp ≤ j ∧ j < 4096 + dp + n then h.2.1 a0 (4096 + (sp + (j - (4096 + dp)))) else h.2.1 b j, h.2.2)
section BPL
variable {G : bp_X} {M : bp_M} {d pc : Nat} {lv : List (Nat × Value)} {st : List Value} {h : bp_H} {Φ : bp_O → bp_H → Prop}
def bp_gC : MethodName := ⟨"java/lang/Object", "getClass", "()Ljava/lang/Class;"⟩
theorem bp_ldcM {idx : Nat} (hd : decode (bp_c M) pc = .ok (.ldc idx, 2)) (hw : Cond.classLink (bp_own_ M) idx "[Ljava/lang/Object;" ∈ bp_UW) (k : bp_W G M d (pc + 2) lv (.ref (bp_mi G) :: st) h Φ) : bp_W G M d pc lv st h Φ := by
  intro p e R s m args below meth c H locs ls hC hR hS hL hu
  obtain ⟨h1, h2, h3, h4, h5, h6, h7, -⟩ := hC.2.2.2.2.2.2.2.1
  exact va_ldcM hC.1 hC.2.1 hC.2.2.2.2.1 (hC.2.2.2.2.2.1 _ hw) h7 hd (k p e R s m args below meth c H locs ls hC hR hS hL hu)
theorem bp_getC {idx a n o : Nat} (hd : decode (bp_c M) pc = .ok (.invokevirtual idx, 3)) (hw : Cond.methodLink (bp_own_ M) idx bp_gC ∈ bp_UW ∧ Cond.selects "[Ljava/lang/Object;" bp_gC bp_gC ∈ bp_UW ∧ Cond.instanceMethod bp_gC ∈ bp_UW ∧ Cond.native bp_gC ∈ bp_UW) (hk : h.1 a = (2, 3, n, o)) (hdd : 1 ≤ d) (hst : (st.map fun v => v.category).sum ≤ 8)
    (k : bp_W G M d (pc + 3) lv (.ref (bp_mi G) :: st) h Φ) : bp_W G M d pc lv (.ref a :: st) h Φ := by
  intro p e R s m args below meth c H locs ls hC hR hS hL hu
  obtain ⟨h1, h2, h3, h4, h5, h6, h7, h8, -⟩ := hC.2.2.2.2.2.2.2.1
  obtain ⟨hB, hcell, harr, hRA, -⟩ := bp_arr hC hR hk
  obtain ⟨r1, r2, -⟩ := hC.2.2.2.2.2.2.2.2.2.2.2
  have hts := hC.2.2.2.2.2.1
  exact va_getC hC.1 hC.2.1 (by rw [hC.2.2.1]; exact hL.1.symm) hC.2.2.2.2.1 (hts _ hw.1) (va_Dc.use h8) (hts _ hw.2.1) (hts _ hw.2.2.1) (hts _ hw.2.2.2) h7 ⟨_, hcell, rfl, va_nmO hRA (by decide +kernel)⟩ (by omega) (by omega) hd (k p e R s m args below meth c H locs ls hC hR hS hL hu)
theorem bp_copyO {idx a0 a n0 n1 o0 o1 sp dp n : Nat} {isp idp i_n : Int32} (hd : decode (bp_c M) pc = .ok (.invokestatic idx, 3)) (hw : Cond.methodLink (bp_own_ M) idx arraycopyName ∈ bp_UW ∧ Cond.native arraycopyName ∈ bp_UW ∧ Cond.static arraycopyName ∈ bp_UW ∧ Cond.initialized "java/lang/System" ∈ bp_UW)
    (hk0 : h.1 a0 = (2, 3, n0, o0)) (hk1 : h.1 a = (2, 3, n1, o1)) (e1 : isp = nI sp) (e2 : idp = nI dp) (e3 : i_n = nI n) (hs : sp + n ≤ n0) (ht : dp + n ≤ n1) (hn0 : n0 < 2 ^ 30) (hn1 : n1 < 2 ^ 30)
    (hel : ∀ i : Nat, i < n → h.2.1 a0 (4096 + (sp + i)) = .null ∨ ∃ y ci : Nat, h.2.1 a0 (4096 + (sp + i)) = .ref y ∧ bp_any ci ∧ (h.1 y).1 = 1 ∧ (h.1 y).2.1 = ci) (hdd : 1 ≤ d) (hst : (st.map fun v => v.category).sum ≤ 8)
    (k : bp_W G M d (pc + 3) lv st (bp_cpy h a0 a sp dp n) Φ) : bp_W G M d pc lv (.int i_n :: .int idp :: .ref a :: .int isp :: .ref a0 :: st) h Φ := by
  intro p e R s m args below meth c H locs ls hC hR hS hL hu
  subst e1; subst e2; subst e3
  obtain ⟨hB0, hc0, harr0, hRA0, -⟩ := bp_arr hC hR hk0
  obtain ⟨hB1, hc1, harr1, hRA1, -⟩ := bp_arr hC hR hk1
  obtain ⟨r1, r2, -⟩ := hC.2.2.2.2.2.2.2.2.2.2.2
  have hts := hC.2.2.2.2.2.1
  intro T hT X
  obtain ⟨-, k0, hk0', cm0, hkk0⟩ := harr0
  obtain ⟨-, k1, hk1', cm1, hkk1⟩ := harr1
  have cl1 : (nI sp).toNatClampNeg = sp := nI_clamp (by omega)
  have cl2 : (nI dp).toNatClampNeg = dp := nI_clamp (by omega)
  have cl3 : (nI n).toNatClampNeg = n := nI_clamp (by omega)
  have ti1 : (nI sp).toInt = (sp : Int) := nI_toInt (by omega)
  have ti2 : (nI dp).toInt = (dp : Int) := nI_toInt (by omega)
  have ti3 : (nI n).toInt = (n : Int) := nI_toInt (by omega)
  obtain ⟨vm', X', step⟩ := X.arraycopy hC.1 hC.2.2.2.2.1 (hts _ hw.1) (hts _ hw.2.1) (hts _ hw.2.2.1) (hts _ hw.2.2.2) (src := a0) (dst := a) (cs := arrV (bp_ca G 3) n0 (fun j => h.2.1 a0 (4096 + j))) (cd := arrV (bp_ca G 3) n1 (fun j => h.2.1 a (4096 + j))) (srcPos := nI sp) (destPos := nI dp) (n := nI n) (by rw [hT]; exact hc0) (by rw [hT]; exact hc1)
    (fun _ h => by cases h) (fun _ h => by cases h) (fun h => by cases h) (fun h => by cases h) hk0' hk1' hkk0 hkk1 rfl (nI_pos (by omega)) (nI_pos (by omega)) (nI_pos (by omega))
    (by rw [ti1, ti3, arrV_size]; omega)
    (by rw [ti2, ti3, arrV_size]; omega)
    (fun vm₁ hal i hi => by
      rw [cl3] at hi
      rw [cl1]
      have e9 : (arrV (bp_ca G 3) n0 (fun j => h.2.1 a0 (4096 + j))).slots.getD (sp + i) .null = h.2.1 a0 (4096 + (sp + i)) := by
        rw [Array.getD_eq_getD_getElem?, arrV_read _ _ (by omega)]
        rfl
      rw [e9]
      rcases hel i hi with hy | ⟨y, ci, hy, hany, hky⟩
      · rw [hy]; exact ⟨rfl, trivial⟩
      · rw [hy]
        obtain ⟨cellV, g1, g2, ⟨kC, hkC⟩, hasg⟩ := bp_anyOf hC hR hany hky
        obtain ⟨kA, comp, q1, q2, q3, -⟩ := hRA1
        cases hk1'.symm.trans q1
        cases hkk1.symm.trans q2
        obtain ⟨kE, hkE, -⟩ := Vm.findClass_spec q3
        obtain ⟨kC', hkC', -⟩ := hal.2.2 _ _ hkC
        obtain ⟨kE', hkE', -⟩ := hal.2.2 _ _ hkE
        refine ⟨rfl, cellV, (show T.heap[y]? = some cellV by rw [hT]; exact g1), (fun q h => by rw [h] at g2; cases g2), ⟨kC', hkC'⟩, ?_, ?_⟩
        · exact ⟨kE', hkE'⟩
        · show vm₁.assignable _ _ = true
          rw [hal.assignable]
          exact hasg _ q3)
    (g := F0 m pc ls (.int (nI n) :: .int (nI dp) :: .ref a :: .int (nI sp) :: .ref a0 :: st)) rfl (by rw [hC.2.2.1]; exact hL.1) (rest := st) rfl (by rw [hC.2.1]; exact hd) (by omega) (by
      have hw9 : nativeFrameWords "java/lang/System" "arraycopy" 5 ≤ 20 := by decide
      show 2 * 0 + _ + _ ≤ _
      omega)
  have e1 : copied (arrV (bp_ca G 3) n0 (fun j => h.2.1 a0 (4096 + j))) (arrV (bp_ca G 3) n1 (fun j => h.2.1 a (4096 + j))) (nI sp) (nI dp) (nI n) = arrV (bp_ca G 3) n1 (fun j => (bp_cpy h a0 a sp dp n).2.1 a (4096 + j)) := by
    have e9 := va_copied (fun z : Value => z) (bp_ca G 3) (bp_ca G 3) (n0 := n0) (n1 := n1) (sp := (nI sp).toNatClampNeg) (dp := (nI dp).toNatClampNeg) (n := (nI n).toNatClampNeg) (fun j => h.2.1 a0 (4096 + j)) (fun j => h.2.1 a (4096 + j)) (by rw [cl1, cl3]; exact hs)
    refine (show copied _ _ _ _ _ = _ from e9).trans ?_
    congr 1
    funext q
    rw [cl1, cl2, cl3]
    unfold va_cpy bp_cpy
    by_cases c9 : dp ≤ q ∧ q < dp + n
    · have c8 : 4096 + dp ≤ 4096 + q ∧ 4096 + q < 4096 + dp + n := by omega
      have e8 : 4096 + q - (4096 + dp) = q - dp := by omega
      simp [c9, c8, e8]
    · have c8 : ¬ (4096 + dp ≤ 4096 + q ∧ 4096 + q < 4096 + dp + n) := by omega
      simp only [c9, if_false, true_and]
      rw [if_neg c8]
  rw [e1] at X' step
  have hl : a < H.size := (Array.getElem?_eq_some_iff.mp hc1).1
  generalize hnew : arrV (bp_ca G 3) n1 (fun j => (bp_cpy h a0 a sp dp n).2.1 a (4096 + j)) = cN at X' step
  have hheap : ((T.setVm vm').setCell a cN).heap = H.setIfInBounds a cN := by rw [← hT]; rfl
  have oq : ∀ q : Nat, q ≠ a → (H.setIfInBounds a cN)[q]? = H[q]? := fun q hq => by simp [Array.getElem?_setIfInBounds, Ne.symm hq]
  have oa : (H.setIfInBounds a cN)[a]? = some cN := by simp [Array.getElem?_setIfInBounds, hl]
  have hz : ∀ (q : Nat) (c c' : Cell), H[q]? = some c → (H.setIfInBounds a cN)[q]? = some c' → c'.slots.size = c.slots.size := by
    intro q c0 c1 g1 g2
    by_cases e : q = a
    · subst e
      rw [hc1] at g1
      rw [oa] at g2
      cases g1; cases g2
      rw [← hnew, arrV_size, arrV_size]
    · rw [oq q e, g1] at g2; cases g2; rfl
  have hu' : bp_us (bp_B G) (H.setIfInBounds a cN) = bp_us (bp_B G) H := bp_us_ext (by simp) hz
  have hR' : bp_R G (bp_cpy h a0 a sp dp n) (H.setIfInBounds a cN) := by
    obtain ⟨w1, w2, w3, w4⟩ := hR
    refine ⟨fun b => ?_, by rw [hu']; exact w2, w3, by simpa using w4⟩
    by_cases e : b = a
    · subst e
      refine ⟨fun z => by rw [show ((bp_cpy h a0 b sp dp n).1 b) = h.1 b from rfl, hk1] at z; cases z, fun _ => ⟨hB1, ?_, ?_⟩⟩
      · rw [show ((bp_cpy h a0 b sp dp n).1 b) = h.1 b from rfl, hk1]; show 3 < 5; omega
      · rw [show ((bp_cpy h a0 b sp dp n).1 b) = h.1 b from rfl, hk1, oa, ← hnew]
    · have e8 : (bp_cpy h a0 a sp dp n).2.1 b = h.2.1 b := by funext j; simp [bp_cpy, e]
      rw [e8]
      exact (w1 b).kept (oq b e)
  have kk := k p e R s m args below meth c (H.setIfInBounds a cN) _ ls hC hR' ⟨by simpa using hS.1, fun q g1 g2 => by
      rw [oq q (fun e => g2 (by rw [e]; exact hB1))]
      exact hS.2.1 q g1 g2, fun q hq => by
      rcases List.mem_append.mp hq with h | h
      · exact hS.2.2 q h
      · obtain ⟨z, -, hz⟩ := List.mem_map.mp h
        rw [← hz]
        exact hB1⟩ hL (by rw [hu']; exact hu)
  rw [hu'] at kk
  obtain ⟨t, a1, b1⟩ := kk _ hheap X'
  exact ⟨t, step t a1, b1⟩
end BPL
end
