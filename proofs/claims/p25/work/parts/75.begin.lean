/-! ===== what the Statement gives of the start ===== -/
section VWS
variable {s : State} {args : Array Value}
theorem lw_in {w : Cond} (i : Nat) (h : lw_tbl[i]? = some w) : w ∈ lw_tbl := List.mem_of_getElem? h
theorem l_words (hts : ∀ w ∈ lw_tbl, w.before args s = true) : ∀ w ∈ bp_UW, w.before args s = true := fun w hw => hts w (List.mem_filter.mp hw).1
theorem l_cls (hU : ∀ w ∈ bp_UW, w.before args s = true) : ∃ D : va_G, ∀ (k : Nat) (q : vw_C), bp_cl[k]? = some q → u_Kn s q.1 q.2.1 q.2.2 (D.1 k) (D.2 k) := by
  obtain ⟨c0, i0, k0⟩ := u_known (C := RX0) (T := TX0) (N := 5) (n := 5) hU uc_X0 (hU _ uw_409)
  obtain ⟨c1, i1, k1⟩ := u_known (C := RX1) (T := TX1) (N := 7) (n := 7) hU uc_X1 (hU _ uw_204)
  obtain ⟨c2, i2, k2⟩ := u_known (C := RX2) (T := TX2) (N := 14) (n := 14) hU uc_X2 (hU _ uw_464)
  obtain ⟨c3, i3, k3⟩ := u_known (C := RX3) (T := TX3) (N := 1) (n := 1) hU uc_X3 (hU _ uw_86)
  obtain ⟨c4, i4, k4⟩ := u_known (C := RX4) (T := TX4) (N := 6) (n := 6) hU uc_X4 (hU _ uw_54)
  obtain ⟨c5, i5, k5⟩ := u_known (C := RX5) (T := TX5) (N := 1) (n := 1) hU uc_X5 (hU _ uw_46)
  obtain ⟨c6, i6, k6⟩ := u_known (C := RX3) (T := TX3) (N := 1) (n := 1) hU uc_X3 (hU _ uw_86)
  obtain ⟨c7, i7, k7⟩ := u_known (C := RJx4a65c) (T := TJx4a65c) (N := 3) (n := 3) hU uc_Jx4a65c (hU _ uw_60)
  refine ⟨(fun k => match k with | 0 => c0 | 1 => c1 | 2 => c2 | 3 => c3 | 4 => c4 | 5 => c5 | 6 => c6 | _ => c7, fun k => match k with | 0 => i0 | 1 => i1 | 2 => i2 | 3 => i3 | 4 => i4 | 5 => i5 | 6 => i6 | _ => i7), ?_⟩
  intro k q hq
  match k, hq with
  | 0, hq => cases hq; exact k0
  | 1, hq => cases hq; exact k1
  | 2, hq => cases hq; exact k2
  | 3, hq => cases hq; exact k3
  | 4, hq => cases hq; exact k4
  | 5, hq => cases hq; exact k5
  | 6, hq => cases hq; exact k6
  | 7, hq => cases hq; exact k7
  | k + 8, hq => simp at hq
theorem l_ac {ty : FieldType} (h : (Cond.arrayClass ty).before args s = true) (hn : ∀ C, ty ≠ .object C) : ∃ c : ClassId, ArrOfT s c ty ∧ va_RA s c ty := by
  obtain ⟨c, k, comp, h1, h2, h3⟩ := Cond.arrayClass_spec h
  refine ⟨c, fun n z => ⟨fun k h => (by cases h), k, h2, comp, h3⟩, ?_⟩
  cases ty with
  | object C => exact absurd rfl (hn C)
  | _ => exact h1
theorem l_tys (hU : ∀ w ∈ bp_UW, w.before args s = true) (hO : va_AO "java/lang/Object" s) (hA : va_AOA .int s) : ∃ ca : Nat → ClassId, ∀ (k : Nat) (q : ClassId × FieldType), ([(ca 0, .int), (ca 1, .int), (ca 2, .int), (ca 3, .object "java/lang/Object"), (ca 4, .array .int)] : List (ClassId × FieldType))[k]? = some q → ArrOfT s q.1 q.2 ∧ va_RA s q.1 q.2 := by
  obtain ⟨a0, k0⟩ := l_ac (hU _ aw_0) (fun C e => by cases e)
  obtain ⟨a1, k1⟩ := l_ac (hU _ aw_1) (fun C e => by cases e)
  obtain ⟨a2, k2⟩ := l_ac (hU _ aw_2) (fun C e => by cases e)
  obtain ⟨comp, a3, k, h1, h2, h3, h4, h5⟩ := Cond.arrayOver_spec (va_AO.use (A := args) hO)
  have k3 : ArrOfT s a3 (.object "java/lang/Object") ∧ va_RA s a3 (.object "java/lang/Object") := ⟨fun n z => ⟨fun k h => (by cases h), k, h3, comp, h4⟩, k, comp, h3, h4, h1, h5⟩
  obtain ⟨comp', a4, k', g1, g2, g3, g4, g5⟩ := arrayOverA_spec (va_AOA.use (A := args) hA)
  have k4 : ArrOfT s a4 (.array .int) ∧ va_RA s a4 (.array .int) := ⟨fun n z => ⟨fun k h => (by cases h), k', g3, comp', g4⟩, g5⟩
  refine ⟨fun k => match k with | 0 => a0 | 1 => a1 | 2 => a2 | 3 => a3 | _ => a4, ?_⟩
  intro k q hq
  match k, hq with
  | 0, hq => cases hq; exact k0
  | 1, hq => cases hq; exact k1
  | 2, hq => cases hq; exact k2
  | 3, hq => cases hq; exact k3
  | 4, hq => cases hq; exact k4
  | k + 5, hq => simp at hq
theorem l_sr : ∀ q ∈ bp_strs, Cond.stringRef q.1 q.2.1 q.2.2 ∈ lw_tbl := List.forall_mem_cons.mpr ⟨lw_in 176 (by decide +kernel), List.forall_mem_cons.mpr ⟨lw_in 315 (by decide +kernel), List.forall_mem_cons.mpr ⟨lw_in 345 (by decide +kernel), List.forall_mem_cons.mpr ⟨lw_in 352 (by decide +kernel), List.forall_mem_cons.mpr ⟨lw_in 357 (by decide +kernel), List.forall_mem_cons.mpr ⟨lw_in 358 (by decide +kernel), List.forall_mem_cons.mpr ⟨lw_in 406 (by decide +kernel), List.forall_mem_cons.mpr ⟨lw_in 407 (by decide +kernel), List.forall_mem_cons.mpr ⟨lw_in 445 (by decide +kernel), List.forall_mem_cons.mpr ⟨lw_in 446 (by decide +kernel), List.forall_mem_cons.mpr ⟨lw_in 447 (by decide +kernel), List.forall_mem_cons.mpr ⟨lw_in 448 (by decide +kernel), List.forall_mem_cons.mpr ⟨lw_in 449 (by decide +kernel), List.forall_mem_cons.mpr ⟨lw_in 450 (by decide +kernel), List.forall_mem_cons.mpr ⟨lw_in 457 (by decide +kernel), List.forall_mem_cons.mpr ⟨lw_in 537 (by decide +kernel), List.forall_mem_cons.mpr ⟨lw_in 538 (by decide +kernel), List.forall_mem_cons.mpr ⟨lw_in 551 (by decide +kernel), List.forall_mem_cons.mpr ⟨lw_in 604 (by decide +kernel), List.forall_mem_cons.mpr ⟨lw_in 617 (by decide +kernel), List.forall_mem_cons.mpr ⟨lw_in 644 (by decide +kernel), fun _ h => absurd h List.not_mem_nil⟩⟩⟩⟩⟩⟩⟩⟩⟩⟩⟩⟩⟩⟩⟩⟩⟩⟩⟩⟩⟩
theorem l_sn : ∀ q ∈ bp_strs, q.1 = RX5 := by decide
theorem l_strs (hts : ∀ w ∈ lw_tbl, w.before args s = true) {c5 : ClassId} (h5 : s.vm.findClass RX5 = some c5) : ∀ q ∈ bp_strs, ∃ a : Nat, vk_R q.1 q.2.1 q.2.2 a s := by
  intro q hq
  have hcur : s.vm.findClass q.1 = some c5 := by rw [l_sn q hq]; exact h5
  have h := hts _ (l_sr q hq)
  obtain ⟨-, -, -, a, -, -, -, -, -, ha⟩ := Cond.stringRef_spec hcur h
  exact ⟨a, vk_R.of h ha⟩
theorem l_nc : ∀ q ∈ bp_ncs, Cond.not (Cond.castable q.1 q.2) ∈ flatC (Jvm.Cond.and given_1 narrow_1) := by decide +kernel
theorem l_n1 : Cond.arrayOf (.static "java/util/ArrayList" "DEFAULTCAPACITY_EMPTY_ELEMENTDATA" "[Ljava/lang/Object;") (.object "java/lang/Object") ∈ flatC (Jvm.Cond.and given_1 narrow_1) := by decide +kernel
theorem l_n2 : Cond.eq (.length (.static "java/util/ArrayList" "DEFAULTCAPACITY_EMPTY_ELEMENTDATA" "[Ljava/lang/Object;")) (.int 0) ∈ flatC (Jvm.Cond.and given_1 narrow_1) := by decide +kernel
theorem l_n3 : Cond.isRef (.static Bundle.tN "UNASSIGNED_STACK" Bundle.steD) ∈ flatC (Jvm.Cond.and given_1 narrow_1) := by decide +kernel
theorem l_n4 : Cond.isRef (.static Bundle.tN "SUPPRESSED_SENTINEL" Bundle.listD) ∈ flatC (Jvm.Cond.and given_1 narrow_1) := by decide +kernel
theorem l_n5 : Cond.isRef (.mirror "[Ljava/lang/Object;") ∈ flatC (Jvm.Cond.and given_1 narrow_1) := by decide +kernel
theorem l_at0 (hts : ∀ w ∈ lw_tbl, w.before args s = true) (hgv : (Jvm.Cond.and given_1 narrow_1).before args s = true) {l : Launch} (hl : l.flags = flags0) {b L : Nat} {xs : Nat → Int32} (hX : va_X b L xs s s.heap) (hb : b < s.heap.size) :
    ∃ G : bp_X, bp_l G = l ∧ bp_B G = s.heap.size ∧ bp_sb G = b ∧ bp_sL G = L ∧ bp_Fx G s s.heap := by
  have hU := l_words hts
  have hfl := flat_of_before _ hgv
  have hA : ∀ a : Nat, a < s.heap.size → ¬ (fun q : Nat => s.heap.size ≤ q) a := fun a h => Nat.not_le.mpr h
  obtain ⟨D, hD⟩ := l_cls hU
  have hO : va_AO "java/lang/Object" s := va_AO.of (hts _ (lw_in 288 (by decide +kernel)))
  have hOA : va_AOA .int s := va_AOA.of (hts _ (lw_in 92 (by decide +kernel)))
  obtain ⟨ca, hca⟩ := l_tys hU hO hOA
  have hiL : (Cond.initialized "java/util/ArrayList").before args s = true := hts _ (lw_in 27 (by decide +kernel))
  have hiT : (Cond.initialized Bundle.tN).before args s = true := hts _ (lw_in 29 (by decide +kernel))
  obtain ⟨e0, he0, hT⟩ := va_Tof (args := args) (s := s) (tm := .static "java/util/ArrayList" "DEFAULTCAPACITY_EMPTY_ELEMENTDATA" "[Ljava/lang/Object;") (ty := .object "java/lang/Object") (N := 0) (f := fun _ => .null) (A := fun q : Nat => s.heap.size ≤ q) (by decide) (hfl _ l_n1) (va_eqt (hfl _ l_n2)) (fun j hj => absurd hj (Nat.not_lt_zero j)) hA
  have hZ := va_Zref (A := fun q : Nat => s.heap.size ≤ q) (hts _ (lw_in 72 (by decide +kernel))) hiL he0 hA
  have hZ1 := vx_Zqof (A := fun q : Nat => s.heap.size ≤ q) (C := Bundle.tN) (n := "UNASSIGNED_STACK") (d := Bundle.steD) (hts _ (lw_in 162 (by decide +kernel))) hiT (hfl _ l_n3) hA
  have hZ2 := vx_Zqof (A := fun q : Nat => s.heap.size ≤ q) (C := Bundle.tN) (n := "SUPPRESSED_SENTINEL") (d := Bundle.listD) (hts _ (lw_in 164 (by decide +kernel))) hiT (hfl _ l_n4) hA
  obtain ⟨mi, hmi⟩ := va_Mi.of (hfl _ l_n5)
  have hDc : va_Dc s := va_Dc.of (hts _ (lw_in 749 (by decide +kernel)))
  refine ⟨(l, D, ca, s.heap.size, e0, mi, b, L, xs), rfl, rfl, rfl, rfl, ⟨hD, hca⟩, hZ, hT, hZ1, hZ2, l_strs hts (hD 5 _ rfl).2.1, hmi, hDc, hO, hOA, hX, hb, ?_, fun q hq => va_Nc.of (hfl _ (l_nc q hq))⟩
  show l.stackTraces = false
  unfold Launch.stackTraces
  rw [hl]
  decide
end VWS
section VWT
theorem l_us0 {H : Heap} : bp_us H.size H = 0 := by
  unfold bp_us
  rw [List.drop_of_length_le (by simp)]
  rfl
theorem l_H0 {G : bp_X} : bq_H G (fun _ => (0, 0, 0, 0), fun _ _ => .null, 0) l_w0 := by
  refine ⟨fun _ => 33, fun c i h => False.elim h, fun n h => False.elim h, fun n h => False.elim h, fun c i j _ h => False.elim h, ?_, ?_⟩
  · decide
  · exact Nat.zero_le _
theorem l_R0 {G : bp_X} {H : Heap} (hB : bp_B G = H.size) : bp_R G (fun _ => (0, 0, 0, 0), fun _ _ => .null, 0) H := by
  refine ⟨fun a => ⟨fun h => (by cases h), fun h => (by cases h)⟩, ?_, Nat.zero_le _, Nat.le_of_eq hB⟩
  rw [hB, l_us0]
  exact Nat.le_refl 0
/-- nothing old was written, the room is the claim's -/
theorem l_frame {s : State} {o : Outcome} {t : State} {Lc : List Loc} {k n : Nat} (h : FrameEnd s o t Lc k n) (hf : ∀ q ∈ Lc, s.heap.size ≤ q.base) (hk : k ≤ 600086) (hn : n ≤ 7301442) : Framed s o t [] 600086 7301442 := by
  obtain ⟨h1, h2, g1, g2, g3, g4, g5, g6⟩ := h
  refine ⟨h1, h2, g1, g2, Nat.le_trans g3 (Nat.add_le_add_left hk _), g4, Nat.le_trans g5 hn, fun a c hc => ?_⟩
  obtain ⟨c', e1, e2, e3, e4⟩ := g6 a c hc
  refine ⟨c', e1, e2, e3, fun i _ => e4 i (fun hm => ?_)⟩
  have := hf _ hm
  have hlt := (Array.getElem?_eq_some_iff.mp hc).1
  exact absurd this (Nat.not_le.mpr hlt)
end VWT
