/-! ===== a constructor that may throw: pasted from the kit ===== -/
section VXIA
variable {p : Program} {l : Launch} {e : Env} {R : Room} {s : State} {m : MethodId} {args : Array Value} {below : List Frame} {meth : Method} {c : Code} {T : State} {locs : List Loc} {cells slots : Nat}
theorem vx_callI (X : Stand p l e R s m args below meth c T locs cells slots) (hexec : p.tables.exec = Jvm.exec) {own : String} {index : Nat} {y : MethodName} {bytes : ByteArray} {maxL : Nat}
    (hown : s.vm.findClass own = some m.cls) (hy1 : y.name = "<init>") (hlink : (Cond.methodLink own index y).before args s = true) (hinst : (Cond.instanceMethod y).before args s = true)
    (hcode : (Cond.code y bytes maxL none).before args s = true) (hy : y.cls ≠ "java/lang/invoke/MethodHandle" ∧ y.cls ≠ "java/lang/invoke/VarHandle")
    {W9 : Nat} {Pre : Pt → Array Value → Prop} {Post : Pt → Array Value → Option Value → Pt → Prop} {PostX : Pt → Array Value → Addr → Pt → Prop} (hK : vx_Back l R p e below s args y 3 W9 Pre Post PostX)
    {g : JFrame} (hg : g.method = m) (hsize : g.locals.size = c.maxLocals) {a : Addr} {argsL rest : List Value} (hlen : ∀ sig, parseMethodDescriptor y.desc = some sig → argsL.length = sig.parameters.length)
    (hstack : g.stack = argsL.reverse ++ .ref a :: rest) (hW : 2 * g.monitorRoom + (rest.map fun v => v.category).sum ≤ W9) (hdg : decode c.code g.pc = .ok (.invokespecial index, 3))
    (hpre : ∀ vm₁, s.WarmedH vm₁ → Pre ⟨T.setVm vm₁, locs, cells, slots⟩ (Value.ref a :: argsL).toArray) :
    (∃ (v : Option Value) (vm₁ : Vm) (B : Pt), s.WarmedH vm₁ ∧ Stand p l e R s m args below meth c B.U B.locs B.cells B.slots ∧ Post ⟨T.setVm vm₁, locs, cells, slots⟩ (Value.ref a :: argsL).toArray v B ∧
      ∀ target, Steps p.tables e below (B.U.setTop { g with pc := g.pc + 3, stack := v.toList ++ rest }) target → Steps p.tables e below (T.setTop g) target) ∨
    (∃ (q : Addr) (vm₁ : Vm) (B : Pt), s.WarmedH vm₁ ∧ Stand p l e R s m args below meth c B.U B.locs B.cells B.slots ∧ PostX ⟨T.setVm vm₁, locs, cells, slots⟩ (Value.ref a :: argsL).toArray q B ∧
      Steps p.tables e below (T.setTop g) ((B.U.setTop { g with stack := rest }).pushFrame (.throwing q))) := by
  subst hg
  have hpl : e.platform.magicAccessors = ({} : Platform).magicAccessors := by rw [X.admits.platform]
  obtain ⟨mk, methM, cM, kP, vm₁, hnamed, hmethM, hcodeM, -, hlocalsM, -, hkP, -, hW₁, hstep₁⟩ := Steps.initColdArgs (e := e) X.here hexec X.warmed hpl hown hy1 hy hlink hinst hcode (f := g) rfl hlen hstack hdg
  have X₁ := X.noted hW₁
  rcases hK g.method meth c ⟨T.setVm vm₁, locs, cells, slots⟩ { g with stack := rest } (.invokespecial index) mk (Value.ref a :: argsL).toArray X₁ rfl hsize hdg hW (X₁.named hnamed) (hpre vm₁ X₁.warmed) with ⟨v, B, X', hpost, hsteps⟩ | ⟨q, B, X', hpost, hsteps⟩
  · exact Or.inl ⟨v, vm₁, B, X₁.warmed, X', hpost, fun target h => hstep₁ _ fun acts => by rw [doInvoke_state]; exact hsteps.trans h⟩
  · exact Or.inr ⟨q, vm₁, B, X₁.warmed, X', hpost, hstep₁ _ fun acts => by rw [doInvoke_state]; exact hsteps⟩
end VXIA
section VXIB
variable {p : Program} {l : Launch} {e : Env} {R : Room} {s : State} {m : MethodId} {args : Array Value} {below : List Frame} {meth : Method} {c : Code} {H : Heap} {locs : List Loc} {cells slots : Nat}
variable {y : MethodName} {bytes cc : ByteArray} {maxL nL mc ms n index : Nat} {ret : Option FieldType} {ws : List Cond} {rm : Room} {Pc : Array Value → State → Prop} {Qc : Array Value → State → Outcome → State → Prop} {XC : String → State → State → Prop} {free : Addr → Prop} {Ts : List Cond} {own C : String} {b : Addr} {As rest : List Value} {g : JFrame}
theorem vx_runI (S : CallFix p m c cc nL s args Ts own) (hM : vx_Met l y ws rm Pc Qc XC mc ms free) (cw : CallB R s args own index y bytes maxL none ws rm mc ms n ∧ y.name = "<init>" ∧ (Cond.instanceMethod y).before args s = true) (hp : PreS s H Pc (.ref b :: As))
    (hg : g.method = m) (hn : As.length = n) (hsize : g.locals.size = nL) (hstack : g.stack = As.reverse ++ .ref b :: rest) (hW : 2 * g.monitorRoom + (rest.map fun v => v.category).sum ≤ 8) (hdg : decode cc g.pc = .ok (.invokespecial index, 3)) (hf : cells + mc ≤ R.cells ∧ slots + ms ≤ R.slots) :
    vx_Run p l e R s m args below meth c H locs cells slots mc ms g rest (Qc (Value.ref b :: As).toArray) XC free := by
  have hK : vx_Back l R p e below s args y 3 8 (PreOf R mc ms Pc) (PostOf Qc mc ms free) (vx_Post XC mc ms free) := vx_callBack cw.1 hM hp.1
  obtain ⟨⟨-, -, -, -, -, -, hcode, -, hy, hlen, hl⟩, hy1, hin⟩ := cw
  obtain ⟨hx, hb, hml, ho, -⟩ := S
  have hPc := hp.2
  intro T hT X
  rcases vx_callI X hx (bytes := bytes) (maxL := maxL) ho hy1 hl hin hcode hy hK hg (hsize.trans hml.symm) (a := b) (argsL := As) (rest := rest) (fun sig h => hn.trans (hlen sig h)) hstack hW (by rw [hb]; exact hdg)
    (fun vm₁ hW₁ => ⟨hf.1, hf.2, hPc (T.setVm vm₁) hT hW₁⟩) with ⟨v, vm₁, ⟨U', l2, c2, s2⟩, hW₁, X', ⟨g', mk, t, L, e1, e2, hq, h1, hL, h2, h3⟩, st⟩ | ⟨q, vm₁, ⟨U', l2, c2, s2⟩, hW₁, X', ⟨g', mk, t, L, E, ce, e1, e2, hq, hce, hcv, hcl, h1, hL, h2, h3⟩, st⟩
  · dsimp only [Pt.U, Pt.locs, Pt.cells, Pt.slots] at X' e1 e2 h1 h2 h3 st
    subst h1; subst h2; subst h3
    exact Or.inl ⟨v, (T.setVm vm₁).calling g' mk (Value.ref b :: As).toArray, t, U', L, hT, X', hL, e1, e2, hq, st⟩
  · dsimp only [Pt.U, Pt.locs, Pt.cells, Pt.slots] at X' e1 e2 h1 h2 h3 st hcl
    subst h1; subst h2; subst h3
    exact Or.inr ⟨q, (T.setVm vm₁).calling g' mk (Value.ref b :: As).toArray, t, U', L, E, ce, hT, X', hL, e1, e2, hq, hce, hcv, vx_cls hW₁ hcl, st⟩
end VXIB
/-! ===== a throw that tells how much it takes: after the kit's vx_throwS ===== -/
section BPT
variable {p : Program} {l : Launch} {e : Env} {R : Room} {s : State} {m : MethodId} {args : Array Value} {below : List Frame} {meth : Method} {c : Code} {H : Heap} {locs : List Loc} {cells slots : Nat} {Q : State → Prop}
variable {mc ms : Nat} {free : Addr → Prop} {A0 A1 : Nat → Prop} {H0 : Heap} {a : Array Value} {ls : Array Slot} {st0 rest : List Value}
variable {Qc : Array Value → State → Outcome → State → Prop} {XC : String → State → State → Prop}
theorem bp_throwS0 {b0 : Nat} (hb0 : b0 ≤ H.size) {cc : ByteArray} {pc : Nat} (hexec : p.tables.exec = Jvm.exec) (hb : c.code = cc) (hl : l.stackTraces = false) {own cls text : String} {names : List String} {ik is ic mc ms sa : Nat} {A : Nat → Prop}
    (hown : s.vm.findClass own = some m.cls) (hcls : Bundle.fit cls = true) (hnames : ∀ n ∈ names, Bundle.fit n = true)
    (hk : (Cond.classLink own ik cls).before args s = true) (hini : (Cond.initialized cls).before args s = true) (hstr : vk_R own is text sa s) (hat : ∀ w ∈ vx_atS own ic cls names, w.before args s = true)
    (hgood : ∀ w ∈ Cond.classLink own ik cls :: Cond.initialized cls :: vx_atS own ic cls names, vx_ot w = true)
    (hU : vx_Zq Bundle.tN "UNASSIGNED_STACK" Bundle.steD A s s.heap) (hN : vx_Zq Bundle.tN "SUPPRESSED_SENTINEL" Bundle.listD A s s.heap) (hS : va_S A s.heap H locs) (hsize : ls.size = c.maxLocals)
    (d0 : decode cc pc = .ok (.new ik, 3)) (d3 : decode cc (pc + 3) = .ok (.dup, 1)) (d4 : decode cc (pc + 4) = .ok (.ldc is, 2)) (d6 : decode cc (pc + 6) = .ok (.invokespecial ic, 3)) (d9 : decode cc (pc + 9) = .ok (.athrow, 1))
    (hout : ∀ x ∈ c.exceptionTable.toList, covers x (pc + 9) = false)
    (hRframes : names.length + 3 < R.frames) (hRlocals : (rest.map fun v => v.category).sum + (13 * (names.length + 1) + 43) ≤ R.locals) (hRcells : cells + 1 ≤ R.cells) (hRslots : slots + 6 ≤ R.slots) (hlocks : meth.locks = false)
    (hx : ∀ t : State, s.vm.Alike t.vm → H.size ≤ t.heap.size → (∀ q : Nat, q < H.size → t.heap[q]? = H[q]?) → bp_us b0 t.heap ≤ bp_us b0 H + 7 → XC cls s t)
    (hf : ∀ z ∈ locs, free z.base) (hc : cells + 1 ≤ mc) (hs : slots + 6 ≤ ms) :
    W p l e R s m args below meth c H locs cells slots (vx_MQ below Qc XC args s mc ms free) (F0 m pc ls rest) := by
  intro T hT X
  have htr : e.platform.stackTraces = false := (show e.platform.stackTraces = l.stackTraces by rw [X.admits.platform]).trans hl
  have Y := vx_rebase X (R' := { frames := R.frames, locals := R.locals, cells := 1, slots := 6 }) (Nat.le_refl _) (Nat.le_refl _) hRcells hRslots
  obtain ⟨s', hA⟩ : ∃ z, z = (T.setVm s.vm).setFrames (.invoking m args :: below) := ⟨_, rfl⟩
  rw [← hA] at Y
  have hvm : s'.vm = s.vm := by rw [hA]; rfl
  have hhp : s'.heap = H := by rw [hA]; exact hT
  have hW0 : s.WarmedH s'.vm := by rw [hvm]; exact State.WarmedH.refl s
  have hat' : ∀ w ∈ vx_atS own ic cls names, w.before args s' = true := fun w hw => vx_ot_at hW0 hvm.symm (hgood w (List.mem_cons_of_mem _ (List.mem_cons_of_mem _ hw))) (hat w hw)
  have hk' : (Cond.classLink own ik cls).before args s' = true := vx_ot_at hW0 hvm.symm (hgood _ List.mem_cons_self) hk
  have hini' : (Cond.initialized cls).before args s' = true := vx_ot_at hW0 hvm.symm (hgood _ (List.mem_cons_of_mem _ List.mem_cons_self)) hini
  have hU' : vx_Zq Bundle.tN "UNASSIGNED_STACK" Bundle.steD A s' s'.heap := by rw [hhp]; exact vx_Zq.moved hW0.alike (hU.kept hS.2.1)
  have hN' : vx_Zq Bundle.tN "SUPPRESSED_SENTINEL" Bundle.listD A s' s'.heap := by rw [hhp]; exact vx_Zq.moved hW0.alike (hN.kept hS.2.1)
  have h : ∀ w ∈ Bundle.ownAtoms own ic cls names, w.before args s' = true := vx_own hat' (vx_isRefq hU'.1) (vx_isRefq hN'.1) hU'.2.word hN'.2.word
  have hown' : s'.vm.findClass own = some m.cls := by rw [hvm]; exact hown
  have hins : (Cond.instantiable cls 6).before args s' = true := h _ (by simp [Bundle.ownAtoms])
  obtain ⟨vm₁, cX, kX, hfX, hkX, -, -, X₁, st1⟩ := Y.newCold hexec (own := own) (C := cls) (index := ik) (n := 6) hown' hk' hins hini'
    (g := F0 m pc ls rest) rfl (by rw [hb]; exact d0) (Nat.le_refl _) (Nat.le_refl _)
  generalize hT1 : (T.setVm vm₁).pushCell { cls := cX, slots := kX.instanceTypes.map defaultValue, vm := .none } = T1 at X₁ st1
  have hcat : (Value.ref T.heap.size).category = 1 := rfl
  have hcellA : T1.heap[T.heap.size]? = some (freshCell cX kX) := by rw [← hT1]; exact State.heap_pushCell_size _ _
  have d3' : decode c.code (pc + 3) = .ok (.dup, 1) := by rw [hb]; exact d3
  have d4' : decode c.code (pc + 4) = .ok (.ldc is, 2) := by rw [hb]; exact d4
  have hstr' : vk_R own is text sa s' := vk_R.warm hW0 hstr
  obtain ⟨U, hsteps, hrun, hend, hW, hsame, ce, hce, hO⟩ := X₁.ctorThrowS hexec htr (own := own) (cls := cls) (names := names) (ic := ic) hown' hcls hnames h (fun x hx => nomatch hx) hfX hkX hcellA (by rw [hhp, hT]; exact Nat.le_refl _) (msg := .ref sa) rfl
    (g := { method := m, pc := pc + 6, locals := ls, stack := .ref sa :: .ref T.heap.size :: .ref T.heap.size :: rest, locked := none }) rfl hsize rfl rfl (rest := rest) rfl
    (by rw [hb]; exact d6) (by rw [hb]; exact d9) hout hRframes (by simp only [List.map_cons, List.sum_cons, hcat]; omega) hlocks
  obtain ⟨f1, f2⟩ := vx_frame hsame
  rw [hhp] at f1 f2
  have hus : bp_us b0 U.heap ≤ bp_us b0 H + 7 := by
    obtain ⟨-, k2, k3, -, k5, k6⟩ := hsame
    have k2' : H.size ≤ U.heap.size := by rw [← hhp]; exact k2
    have k3' : U.heap.size ≤ H.size + (0 + 1) := by rw [← hhp]; exact k3
    have k5' : ((U.heap.toList.drop H.size).map (fun c : Cell => c.slots.size)).sum ≤ 0 + 6 := by rw [← hhp]; exact k5
    have g := bp_us_grow (b := b0) (H0 := H) (H := U.heap) hb0 k2' (fun q c9 hc9 => by
      obtain ⟨c', e1, -, e3, -⟩ := k6 q c9 (by rw [hhp]; exact hc9)
      exact ⟨c', e1, e3⟩)
    omega
  have hWs : s.WarmedH U.vm := State.WarmedH.trans hW0 hW
  have hcl : s.vm.findClass cls = some ce.cls := by
    have h9 := hO.cls
    rw [hvm] at h9
    exact h9
  have hall : s.sameButNew ({ U with vm := s.vm } : State) locs mc ms := by
    subst hA
    obtain ⟨e1, e2⟩ := hsame
    rw [State.setFrames_setFrames] at e1
    have h2 : (T.setVm s.vm).sameButNew ({ U with vm := s.vm } : State) [] (0 + 1) (0 + 6) := ⟨e1, e2⟩
    have h3 := X.same.trans h2
    rw [List.append_nil] at h3
    exact h3.mono hc hs
  refine ⟨U, ?_, .threw T.heap.size, hrun, hend, Or.inr ⟨T.heap.size, rfl, cls, ce, locs, hx U hWs.alike f1 (fun q hq => f2 q hq (fun z hz => nomatch hz)) hus, hce, hO.vm, hcl, hWs, hall, hf⟩⟩
  refine st1 _ ?_
  show Steps p.tables e below (T1.setTop { method := m, pc := pc + 3, locals := ls, stack := .ref T.heap.size :: rest, locked := none }) _
  jvm_step X₁.here [X₁.here.top, hexec, d3', Value.category]
  exact X₁.ldcString hexec (own := own) (text := text) (index := is) (a := sa) hown' hstr'.1 hstr'.2
    (g := { method := m, pc := pc + 4, locals := ls, stack := .ref T.heap.size :: .ref T.heap.size :: rest, locked := none }) rfl d4' _ hsteps
end BPT
section BPE
variable {G : bp_X} {M : bp_M} {d pc : Nat} {lv : List (Nat × Value)} {st : List Value} {h : bp_H} {Φ : bp_O → bp_H → Prop}
theorem bp_iret {ty : FieldType} {x : Int32} (hd : decode (bp_c M) pc = .ok (.ireturn, 1)) (hr : bp_r M = some ty) (hn : narrow ty (.int x) = .int x) (hΦ : Φ (.inl (some (.int x))) h) : bp_W G M d pc lv [.int x] h Φ := by
  intro p e R s m args below meth c H locs ls hC hR hS hL hu
  have h1 := hR.2.1
  have h2 := hR.2.2.1
  refine W.widen (k := bp_max - bp_us (bp_B G) s.heap) (n := bp_max - bp_us (bp_B G) s.heap) (by omega) (by omega) (vx_ret ?_)
  exact W.zret hC.1 hC.2.1 (hC.2.2.2.1.trans hr) hn (fun t ht hW => ⟨_, h, rfl, hΦ, by rw [ht]; exact hR, hS.F ht⟩) hS.2.2 hd (hlocks := hC.2.2.2.2.2.2.1)
theorem bp_vret (hd : decode (bp_c M) pc = .ok (.return_, 1)) (hr : bp_r M = none) (hΦ : Φ (.inl none) h) : bp_W G M d pc lv [] h Φ := by
  intro p e R s m args below meth c H locs ls hC hR hS hL hu
  have h1 := hR.2.1
  have h2 := hR.2.2.1
  refine W.widen (k := bp_max - bp_us (bp_B G) s.heap) (n := bp_max - bp_us (bp_B G) s.heap) (by omega) (by omega) (vx_ret ?_)
  exact W.vret hC.1 hC.2.1 (hC.2.2.2.1.trans hr) (fun t ht hW => ⟨_, h, rfl, hΦ, by rw [ht]; exact hR, hS.F ht⟩) hS.2.2 hd (hlocks := hC.2.2.2.2.2.2.1)
theorem bp_aretV {rt : FieldType} {v : Value} (hd : decode (bp_c M) pc = .ok (.areturn, 1)) (hr : bp_r M = some rt) (hrt : (∃ n, rt = .object n) ∨ ∃ t, rt = .array t) (hv : v = .null ∨ ∃ a, v = .ref a) (hΦ : Φ (.inl (some v)) h) : bp_W G M d pc lv [v] h Φ := by
  intro p e R s m args below meth c H locs ls hC hR hS hL hu
  have h1 := hR.2.1
  have h2 := hR.2.2.1
  refine W.widen (k := bp_max - bp_us (bp_B G) s.heap) (n := bp_max - bp_us (bp_B G) s.heap) (by omega) (by omega) (vx_ret ?_)
  exact W.aret hC.1 hC.2.1 (hC.2.2.2.1.trans hr) hrt hv (fun t ht hW => ⟨_, h, rfl, hΦ, by rw [ht]; exact hR, hS.F ht⟩) hS.2.2 hd (hlocks := hC.2.2.2.2.2.2.1)
theorem bp_aret {n : String} {a : Nat} (hd : decode (bp_c M) pc = .ok (.areturn, 1)) (hr : bp_r M = some (.object n)) (hΦ : Φ (.inl (some (.ref a))) h) : bp_W G M d pc lv [.ref a] h Φ := bp_aretV hd hr (Or.inl ⟨n, rfl⟩) (Or.inr ⟨a, rfl⟩) hΦ
theorem bp_aretA {t : FieldType} {a : Nat} (hd : decode (bp_c M) pc = .ok (.areturn, 1)) (hr : bp_r M = some (.array t)) (hΦ : Φ (.inl (some (.ref a))) h) : bp_W G M d pc lv [.ref a] h Φ := bp_aretV hd hr (Or.inr ⟨t, rfl⟩) (Or.inr ⟨a, rfl⟩) hΦ
theorem bp_aretN {n : String} (hd : decode (bp_c M) pc = .ok (.areturn, 1)) (hr : bp_r M = some (.object n)) (hΦ : Φ (.inl (some .null)) h) : bp_W G M d pc lv [.null] h Φ := bp_aretV hd hr (Or.inl ⟨n, rfl⟩) (Or.inl rfl) hΦ
/-- the words of a throw of class cls, by entries ik, is, ic of class own -/
def bp_TW (own : String) (ik is ic : Nat) (cls text : String) (names : List String) : Prop :=
  Bundle.fit cls = true ∧ (∀ n ∈ names, Bundle.fit n = true) ∧ names.length ≤ 2 ∧ Cond.classLink own ik cls ∈ bp_UW ∧ Cond.initialized cls ∈ bp_UW ∧ (own, is, text) ∈ bp_strs ∧ (∀ w ∈ vx_atS own ic cls names, w ∈ bp_UW) ∧ (∀ w ∈ Cond.classLink own ik cls :: Cond.initialized cls :: vx_atS own ic cls names, vx_ot w = true)
theorem bp_throw {ik is ic : Nat} {cls text : String} {names : List String} (d0 : decode (bp_c M) pc = .ok (.new ik, 3)) (d3 : decode (bp_c M) (pc + 3) = .ok (.dup, 1)) (d4 : decode (bp_c M) (pc + 4) = .ok (.ldc is, 2)) (d6 : decode (bp_c M) (pc + 6) = .ok (.invokespecial ic, 3)) (d9 : decode (bp_c M) (pc + 9) = .ok (.athrow, 1))
    (hw : bp_TW (bp_own_ M) ik is ic cls text names) (ht : bp_t M = []) (hd : 6 ≤ d) (hst : (st.map fun v => v.category).sum ≤ 8) (hm : h.2.2 + 7 ≤ bp_max) (hΦ : Φ (.inr cls) (bp_more h 7)) : bp_W G M d pc lv st h Φ := by
  intro p e R s m args below meth c H locs ls hC hR hS hL hu
  obtain ⟨w1, w2, w3, w4, w5, w6, w7, w8⟩ := hw
  obtain ⟨h1, h2, h3, h4, h5, h6, h7, h8, h9, h10, h11, h12, h13, -⟩ := hC.2.2.2.2.2.2.2.1
  have hts := hC.2.2.2.2.2.1
  obtain ⟨sa, hsa⟩ := h6 _ w6
  obtain ⟨r1, r2, -⟩ := hC.2.2.2.2.2.2.2.2.2.2.2
  have hr := bp_room hC hR hu hm
  have hu2 := hR.2.1
  refine bp_throwS0 (b0 := bp_B G) hR.2.2.2 hC.1 hC.2.1 h13 (A := bp_A G) hC.2.2.2.2.1 w1 w2 (hts _ w4) (hts _ w5) hsa (fun w hw => hts _ (w7 w hw)) w8 h4 h5 hS (by rw [hC.2.2.1]; exact hL.1) d0 d3 d4 d6 d9 ?_ (by omega) (by omega) (by omega) (by omega) hC.2.2.2.2.2.2.1 ?_ hS.2.2 (by omega) (by omega)
  · rw [hC.2.2.2.2.2.2.2.2.2.1, ht]
    intro x hx
    cases hx
  · intro t hal hz hq hus
    refine ⟨bp_more h 7, hΦ, ⟨fun a => ?_, ?_, hm, Nat.le_trans hR.2.2.2 hz⟩, Nat.le_trans hS.1 hz, fun q g1 g2 => (hq q (Nat.lt_of_lt_of_le g1 hS.1)).trans (hS.2.1 q g1 g2)⟩
    · by_cases e2 : (h.1 a).1 = 1 ∨ (h.1 a).1 = 2
      · exact (hR.1 a).kept (hq a ((hR.1 a).lt e2))
      · exact ⟨fun z => absurd (Or.inl z) e2, fun z => absurd (Or.inr z) e2⟩
    · show bp_us (bp_B G) t.heap ≤ h.2.2 + 7
      omega
/-- with an object of class E thrown over the frame -/
def bp_Wx (G : bp_X) (M : bp_M) (d : Nat) (pc : Nat) (lv : List (Nat × Value)) (st : List Value) (h : bp_H) (E : String) (Φ : bp_O → bp_H → Prop) : Prop :=
  ∀ (p : Program) (e : Env) (R : Room) (s : State) (m : MethodId) (args : Array Value) (below : List Frame) (meth : Method) (c : Code) (H : Heap) (locs : List Loc) (ls : Array Slot) (q : Nat) (ce : Cell),
    bp_C G M d p R s m args meth c → bp_R G h H → va_S (bp_A G) s.heap H locs → lv_has ls (bp_n M) lv → bp_us (bp_B G) s.heap ≤ bp_us (bp_B G) H → H[q]? = some ce → ce.vm = .none → s.vm.findClass E = some ce.cls →
    vx_W p (bp_l G) e R s m args below meth c H locs (bp_us (bp_B G) H - bp_us (bp_B G) s.heap) (bp_us (bp_B G) H - bp_us (bp_B G) s.heap)
      (vx_MQ below (bp_Qc G Φ) (bp_XC G Φ) args s (bp_max - bp_us (bp_B G) s.heap) (bp_max - bp_us (bp_B G) s.heap) (bp_A G)) (F0 m pc ls st) q
theorem bp_out {E : String} (ht : bp_t M = []) (hΦ : Φ (.inr E) h) : bp_Wx G M d pc lv st h E Φ := by
  intro p e R s m args below meth c H locs ls q ce hC hR hS hL hu hq hv hcl
  have h1 := hR.2.1
  have h2 := hR.2.2.1
  refine vx_out ?_ hC.2.2.2.2.2.2.1 hq hv hcl (fun t ht hal => ⟨h, hΦ, by rw [ht]; exact hR, hS.F ht⟩) hS.2.2 (by omega) (by omega)
  rw [hC.2.2.2.2.2.2.2.2.2.1, ht]
  intro x hx
  cases hx
/-- caught: the rows 'pre' of the table don't take it, row x does -/
theorem bp_catch {E name : String} {x : Nat × Nat × Nat × Nat} (pre suf : List (Nat × Nat × Nat × Nat)) (hsplit : bp_t M = pre ++ x :: suf) (hpass : ∀ z ∈ pre, covers ⟨z.1, z.2.1, z.2.2.1, z.2.2.2⟩ pc = false ∨ (z.2.2.2 ≠ 0 ∧ ∃ nm : String, Cond.classLink (bp_own_ M) z.2.2.2 nm ∈ bp_UW ∧ (E, nm) ∈ bp_ncs))
    (hx : covers ⟨x.1, x.2.1, x.2.2.1, x.2.2.2⟩ pc = true) (h0 : x.2.2.2 ≠ 0) (hlink : Cond.classLink (bp_own_ M) x.2.2.2 name ∈ bp_UW) (hcast : Cond.castable E name ∈ bp_UW) (kk : ∀ q : Nat, bp_W G M d x.2.2.1 lv [.ref q] h Φ) : bp_Wx G M d pc lv st h E Φ := by
  intro p e R s m args below meth c H locs ls q ce hC hR hS hL hu hq hv hcl
  have hts := hC.2.2.2.2.2.1
  obtain ⟨h1, h2, h3, h4, h5, h6, h7, h8, h9, h10, h11, h12, h13, h14⟩ := hC.2.2.2.2.2.2.2.1
  refine vx_catch hC.2.2.2.2.1 (tableOf pre) ⟨x.1, x.2.1, x.2.2.1, x.2.2.2⟩ (tableOf suf) ?_ ?_ hx h0 (hts _ hlink) (hts _ hcast) hq hv hcl (kk q p e R s m args below meth c H locs ls hC hR hS hL hu)
  · rw [hC.2.2.2.2.2.2.2.2.2.1, hsplit]
    simp [tableOf]
  · intro z hz
    obtain ⟨w, hw, rfl⟩ := List.mem_map.mp hz
    rcases hpass w hw with g | ⟨g1, nm, g2, g3⟩
    · exact Or.inl g
    · exact Or.inr ⟨g1, nm, hts _ g2, h14 _ g3⟩
/-- the method's own word -/
def bp_cw (M : bp_M) : Cond := if bp_t M = [] then .code (bp_y M) (bp_c M) (bp_n M) (bp_r M) else .codeWith (bp_y M) (bp_c M) (bp_n M) (bp_r M) (bp_t M)
abbrev bp_rm (G : bp_X) (d u0 : Nat) : Room := { frames := d, cells := bp_max - u0, slots := bp_max - u0, locals := 39 * d }
abbrev bp_Pc (G : bp_X) (av : List Value) (h : bp_H) (u0 : Nat) : Array Value → State → Prop := va_Pc av (fun U => bp_us (bp_B G) U.heap = u0 ∧ bp_R G h U.heap ∧ bp_Fx G U U.heap)
/-- the method, called with av at heap h, ends as Φ says -/
def bp_S (G : bp_X) (M : bp_M) (d : Nat) (av : List Value) (h : bp_H) (Φ : bp_O → bp_H → Prop) : Prop :=
  ∀ u0 : Nat, vx_Met (bp_l G) (bp_y M) (bp_cw M :: bp_UW) (bp_rm G d u0) (bp_Pc G av h u0) (bp_Qc G Φ) (bp_XC G Φ) (bp_max - u0) (bp_max - u0) (bp_A G)
theorem bp_ofW {av : List Value} (hp : plainName (bp_y M).cls = true) (ho : bp_own_ M = (bp_y M).cls) (hlen : (lg_sl av).length ≤ bp_n M) (k : bp_W G M d 0 (lv_args 0 av) [] h Φ) : bp_S G M d av h Φ := by
  intro u0
  have key : ∀ (p : Program) (e : Env) (s : State) (m : MethodId) (args : Array Value) (below : List Frame) (meth : Method) (c : Code) (s₁ : State), BodyLoose p (bp_l G) (bp_y M) (headSpec (bp_cw M :: bp_UW) (bp_rm G d u0)) (bp_c M) (bp_n M) (bp_r M) e s m args below meth c s₁ → c.maxLocals = bp_n M → c.exceptionTable.toList = tableOf (bp_t M) → bp_Pc G av h u0 args s →
      W p (bp_l G) e (headSpec (bp_cw M :: bp_UW) (bp_rm G d u0)).room s m args below meth c s.heap [] 0 0 (vx_MQ below (bp_Qc G Φ) (bp_XC G Φ) args s (bp_max - u0) (bp_max - u0) (bp_A G)) (entryFrame m args (bp_n M)) := by
    intro p e s m args below meth c s₁ B hml htab hv
    obtain ⟨rfl, hus, hR, hF⟩ := hv
    have hown : s.vm.findClass (bp_own_ M) = some m.cls := by rw [ho]; exact findClass_of_methodNamed B.named
    have hts := atoms_spec (ws := bp_cw M :: bp_UW) B.pre
    have hl := lv_entry av (n := bp_n M) hlen
    rw [lg_entry_eq]
    have k' := k p e (bp_rm G d u0) s m av.toArray below meth c s.heap [] _ ⟨B.exec, B.bytes, hml, B.returns, hown, fun w hw => hts w (List.mem_cons_of_mem _ hw), B.notSynchronized, hF, ⟨hR.2.2.2, Nat.le_trans hR.2.1 hR.2.2.1⟩, htab, fun hi => by rw [← hi]; exact (name_of_methodNamed B.named B.method).1, ⟨Nat.le_refl _, Nat.le_refl _, by show bp_max ≤ bp_max - u0 + _; rw [hus]; omega, by show bp_max ≤ bp_max - u0 + _; rw [hus]; omega⟩⟩ hR va_S.rf hl (Nat.le_refl _)
    rw [Nat.sub_self, hus] at k'
    exact k'
  by_cases ht : bp_t M = []
  · refine vx_ofW hp (show bp_cw M :: bp_UW = Cond.code (bp_y M) (bp_c M) (bp_n M) (bp_r M) :: bp_UW by unfold bp_cw; rw [if_pos ht]) ?_
    intro p e s m args below meth c s₁ B hml htab hv
    refine key p e s m args below meth c s₁ B hml ?_ hv
    rw [ht]
    cases hq : c.exceptionTable.toList with
    | nil => rfl
    | cons x r => exact absurd (htab x (by rw [hq]; exact List.mem_cons_self)) id
  · refine vx_ofWH hp (show bp_cw M :: bp_UW = Cond.codeWith (bp_y M) (bp_c M) (bp_n M) (bp_r M) (bp_t M) :: bp_UW by unfold bp_cw; rw [if_neg ht]) ?_
    intro p e s m args below meth c s₁ B hml hv
    refine key p e s m args below meth c s₁ B hml ?_ hv
    have hts := atoms_spec (ws := bp_cw M :: bp_UW) B.pre (bp_cw M) List.mem_cons_self
    unfold bp_cw at hts
    rw [if_neg ht] at hts
    exact vx_table (x := bp_y M) B hts
/-- entry idx of class own names the method M' for a call of n arguments -/
def bp_MB (own : String) (idx : Nat) (M' : bp_M) (n : Nat) : Prop :=
  Cond.methodLink own idx (bp_y M') ∈ bp_UW ∧ Cond.initialized (bp_y M').cls ∈ bp_UW ∧ bp_cw M' ∈ bp_UW ∧ ((bp_y M').cls ≠ "java/lang/invoke/MethodHandle" ∧ (bp_y M').cls ≠ "java/lang/invoke/VarHandle") ∧ (parseMethodDescriptor (bp_y M').desc).map (fun d => d.parameters.length) = some n
def bp_MV (own : String) (idx : Nat) (M' : bp_M) (n : Nat) (C : String) : Prop := bp_MB own idx M' n ∧ bp_t M' = [] ∧ Cond.instanceMethod (bp_y M') ∈ bp_UW ∧ Cond.selects C (bp_y M') (bp_y M') ∈ bp_UW
def bp_MS (own : String) (idx : Nat) (M' : bp_M) (n : Nat) : Prop := bp_MB own idx M' n ∧ Cond.static (bp_y M') ∈ bp_UW
def bp_MI (own : String) (idx : Nat) (M' : bp_M) (n : Nat) : Prop := bp_MB own idx M' n ∧ bp_t M' = [] ∧ (bp_y M').name = "<init>" ∧ bp_r M' = none ∧ Cond.instanceMethod (bp_y M') ∈ bp_UW
theorem bp_ws {p : Program} {R : Room} {s : State} {m : MethodId} {args : Array Value} {meth : Method} {c : Code} (hC : bp_C G M d p R s m args meth c) {M' : bp_M} (hw : bp_cw M' ∈ bp_UW) : ∀ w ∈ bp_cw M' :: bp_UW, ∀ (a' : Array Value) (U : State), s.WarmedH U.vm → w.before a' U = true := by
  intro w hq a' U hW
  rcases List.mem_cons.mp hq with rfl | hq
  · exact bp_later hw (hC.2.2.2.2.2.1 _ hw) hW
  · exact bp_later hq (hC.2.2.2.2.2.1 _ hq) hW
theorem bp_callB {p : Program} {R : Room} {s : State} {m : MethodId} {args : Array Value} {meth : Method} {c : Code} (hC : bp_C G M d p R s m args meth c) {M' : bp_M} {idx n d' u0 : Nat} (hm : bp_MB (bp_own_ M) idx M' n) (ht : bp_t M' = []) (hd : d' + 1 ≤ d) (hn : bp_n M' ≤ 20) :
    CallB R s args (bp_own_ M) idx (bp_y M') (bp_c M') (bp_n M') (bp_r M') (bp_cw M' :: bp_UW) (bp_rm G d' u0) (bp_max - u0) (bp_max - u0) n := by
  have hts := hC.2.2.2.2.2.1
  obtain ⟨m1, m2, m3, m4, m5⟩ := hm
  obtain ⟨r1, r2, -⟩ := hC.2.2.2.2.2.2.2.2.2.2.2
  have hcw : bp_cw M' = Cond.code (bp_y M') (bp_c M') (bp_n M') (bp_r M') := by unfold bp_cw; rw [if_pos ht]
  refine ⟨rfl, rfl, by show d' + 1 ≤ _; omega, by show 8 + (bp_n M' + 11) + 39 * d' ≤ _; omega, bp_ws hC m3, by rw [hcw]; exact List.mem_cons_self, by rw [← hcw]; exact hts _ m3, hts _ m2, m4, fun sig h9 => ?_, hts _ m1⟩
  rw [h9] at m5
  exact (Option.some.inj m5).symm
/-- what stands at the callee's start -/
theorem bp_pre {p : Program} {R : Room} {s : State} {m : MethodId} {args : Array Value} {meth : Method} {c : Code} {H : Heap} {locs : List Loc} {As : List Value} (hC : bp_C G M d p R s m args meth c) (hR : bp_R G h H) (hS : va_S (bp_A G) s.heap H locs) : PreS s H (bp_Pc G As h (bp_us (bp_B G) H)) As := by
  refine ⟨fun a U g mk q => ?_, fun U hU hW => ?_⟩
  · obtain ⟨q1, q2, q3, q4⟩ := q
    exact ⟨q1, q2, q3, bp_Fx.moved (State.WarmedH.refl U) (fun _ _ _ => rfl) q4⟩
  · refine ⟨rfl, by rw [hU], by rw [hU]; exact hR, ?_⟩
    exact bp_Fx.moved hW (fun q g1 g2 => by rw [hU]; exact hS.2.1 q g1 g2) hC.2.2.2.2.2.2.2.1
/-- behind a call -/
theorem bp_back {p : Program} {e : Env} {R : Room} {s : State} {m : MethodId} {args : Array Value} {below : List Frame} {meth : Method} {c : Code} {H : Heap} {locs : List Loc} {ls : Array Slot} {st0 : List Value} {a : Array Value} {Φ' : bp_O → bp_H → Prop}
    (hC : bp_C G M d p R s m args meth c) (hR : bp_R G h H) (hS : va_S (bp_A G) s.heap H locs) (hL : lv_has ls (bp_n M) lv) (hu : bp_us (bp_B G) s.heap ≤ bp_us (bp_B G) H)
    (hr : vx_Run p (bp_l G) e R s m args below meth c H locs (bp_us (bp_B G) H - bp_us (bp_B G) s.heap) (bp_us (bp_B G) H - bp_us (bp_B G) s.heap) (bp_max - bp_us (bp_B G) H) (bp_max - bp_us (bp_B G) H) (F0 m pc ls st0) st (bp_Qc G Φ' a) (bp_XC G Φ') (bp_A G))
    (kk : ∀ (v : Option Value) (h' : bp_H), Φ' (.inl v) h' → bp_W G M d (pc + 3) lv (v.toList ++ st) h' Φ) (kx : ∀ (E : String) (h' : bp_H), Φ' (.inr E) h' → bp_Wx G M d pc lv st h' E Φ) :
    W p (bp_l G) e R s m args below meth c H locs (bp_us (bp_B G) H - bp_us (bp_B G) s.heap) (bp_us (bp_B G) H - bp_us (bp_B G) s.heap)
      (vx_MQ below (bp_Qc G Φ) (bp_XC G Φ) args s (bp_max - bp_us (bp_B G) s.heap) (bp_max - bp_us (bp_B G) s.heap) (bp_A G)) (F0 m pc ls st0) := by
  intro T hT X
  rcases hr T hT X with ⟨v, st₀, t, T', L, g0, X', hLf, e1, e2, ⟨v', h', hv, hp, hR', hF⟩, go⟩ | ⟨q, st₀, t, T', L, E, ce, g0, X', hLf, e1, e2, ⟨h', hp, hR', hF⟩, hce, hcv, hcl, go⟩
  · cases hv
    obtain ⟨k1, k2, k3⟩ := vx_keep g0 e1 hS (fun _ _ z => z) (fun _ z => z) hLf hF
    obtain ⟨w1, X2⟩ := bp_tight X' hC.2.2.2.2.2.2.2.2.1.1
    rw [← e1] at hR'
    obtain ⟨t2, a1, b1⟩ := kk v h' hp p e R s m args below meth c T'.heap (locs ++ L) ls hC hR' k3 hL w1 T' rfl X2
    exact ⟨t2, go t2 a1, b1⟩
  · obtain ⟨k1, k2, k3⟩ := vx_keep g0 e1 hS (fun _ _ z => z) (fun _ z => z) hLf hF
    obtain ⟨w1, X2⟩ := bp_tight X' hC.2.2.2.2.2.2.2.2.1.1
    rw [← e1] at hR' hce
    obtain ⟨t2, a1, b1⟩ := kx E h' hp p e R s m args below meth c T'.heap (locs ++ L) ls q ce hC hR' k3 hL w1 hce hcv hcl T' rfl X2
    exact ⟨t2, go.trans a1, b1⟩
theorem bp_fix {p : Program} {R : Room} {s : State} {m : MethodId} {args : Array Value} {meth : Method} {c : Code} (hC : bp_C G M d p R s m args meth c) : CallFix p m c (bp_c M) (bp_n M) s args bp_UW (bp_own_ M) := ⟨hC.1, hC.2.1, hC.2.2.1, hC.2.2.2.2.1, hC.2.2.2.2.2.1⟩
theorem bp_left {p : Program} {R : Room} {s : State} {m : MethodId} {args : Array Value} {meth : Method} {c : Code} {H : Heap} (hC : bp_C G M d p R s m args meth c) (hR : bp_R G h H) (hu : bp_us (bp_B G) s.heap ≤ bp_us (bp_B G) H) :
    bp_us (bp_B G) H - bp_us (bp_B G) s.heap + (bp_max - bp_us (bp_B G) H) ≤ R.cells ∧ bp_us (bp_B G) H - bp_us (bp_B G) s.heap + (bp_max - bp_us (bp_B G) H) ≤ R.slots := by
  obtain ⟨-, -, r1, r2⟩ := hC.2.2.2.2.2.2.2.2.2.2.2
  have h1 := hR.2.1
  have h2 := hR.2.2.1
  omega
theorem bp_callV {M' : bp_M} {idx d' b ci N : Nat} {As : List Value} {C : String} {T : u_T} {Φ' : bp_O → bp_H → Prop} (hd : decode (bp_c M) pc = .ok (.invokevirtual idx, 3)) (hc : bp_cl[ci]? = some (C, T, N)) (hm : bp_MV (bp_own_ M) idx M' As.length C) (hk : (h.1 b).1 = 1 ∧ (h.1 b).2.1 = ci)
    (hM : bp_S G M' d' (.ref b :: As) h Φ') (hdd : d' + 1 ≤ d) (hn : bp_n M' ≤ 20) (hst : (st.map fun v => v.category).sum ≤ 8) {st0 : List Value} (hst0 : st0 = As.reverse ++ .ref b :: st)
    (kk : ∀ (v : Option Value) (h' : bp_H), Φ' (.inl v) h' → bp_W G M d (pc + 3) lv (v.toList ++ st) h' Φ) (kx : ∀ (E : String) (h' : bp_H), Φ' (.inr E) h' → bp_Wx G M d pc lv st h' E Φ) : bp_W G M d pc lv st0 h Φ := by
  intro p e R s m args below meth c H locs ls hC hR hS hL hu
  have hts := hC.2.2.2.2.2.1
  obtain ⟨m1, m2, m3, m4⟩ := hm
  have hp := bp_pre (As := .ref b :: As) hC hR hS
  exact bp_back hC hR hS hL hu (vx_runV (g := F0 m pc ls st0) (bp_fix hC) (hM _) ⟨bp_callB hC m1 m2 hdd hn, hts _ m3, hts _ m4⟩ ⟨hp.1, bp_recv hC hR hc hk, hp.2⟩ rfl rfl hL.1 hst0 (lv_room hst) hd (bp_left hC hR hu)) kk kx
theorem bp_callS {M' : bp_M} {idx d' : Nat} {As : List Value} {Φ' : bp_O → bp_H → Prop} (hd : decode (bp_c M) pc = .ok (.invokestatic idx, 3)) (hm : bp_MS (bp_own_ M) idx M' As.length)
    (hM : bp_S G M' d' As h Φ') (hdd : d' + 1 ≤ d) (hn : bp_n M' ≤ 20) (hst : (st.map fun v => v.category).sum ≤ 8) {st0 : List Value} (hst0 : st0 = As.reverse ++ st)
    (kk : ∀ (v : Option Value) (h' : bp_H), Φ' (.inl v) h' → bp_W G M d (pc + 3) lv (v.toList ++ st) h' Φ) (kx : ∀ (E : String) (h' : bp_H), Φ' (.inr E) h' → bp_Wx G M d pc lv st h' E Φ) : bp_W G M d pc lv st0 h Φ := by
  intro p e R s m args below meth c H locs ls hC hR hS hL hu
  have hts := hC.2.2.2.2.2.1
  obtain ⟨m1, m2⟩ := hm
  have hp := bp_pre (As := As) hC hR hS
  by_cases ht : bp_t M' = []
  · exact bp_back hC hR hS hL hu (vx_runS (g := F0 m pc ls st0) (bp_fix hC) (hM _) ⟨bp_callB hC m1 ht hdd hn, hts _ m2⟩ hp rfl rfl hL.1 hst0 (lv_room hst) hd (bp_left hC hR hu)) kk kx
  · have hcw : bp_cw M' = Cond.codeWith (bp_y M') (bp_c M') (bp_n M') (bp_r M') (bp_t M') := by unfold bp_cw; rw [if_neg ht]
    obtain ⟨n1, n2, n3, n4, n5⟩ := m1
    obtain ⟨r1, r2, -⟩ := hC.2.2.2.2.2.2.2.2.2.2.2
    refine bp_back hC hR hS hL hu (vx_runSX (g := F0 m pc ls st0) (hh := bp_t M') (bytes := bp_c M') (maxL := bp_n M') (ret := bp_r M') (n := As.length) (bp_fix hC) (hM _) ⟨⟨rfl, rfl, by show d' + 1 ≤ _; omega, by show 8 + (bp_n M' + 11) + 39 * d' ≤ _; omega, bp_ws hC n3, by rw [hcw]; exact List.mem_cons_self⟩, by rw [← hcw]; exact hts _ n3, hts _ n2, n4, fun sig h9 => ?_, hts _ n1, hts _ m2⟩ hp rfl rfl hL.1 hst0 (lv_room hst) hd (bp_left hC hR hu)) kk kx
    rw [h9] at n5
    exact (Option.some.inj n5).symm
theorem bp_callI {M' : bp_M} {idx d' b : Nat} {As : List Value} {Φ' : bp_O → bp_H → Prop} (hd : decode (bp_c M) pc = .ok (.invokespecial idx, 3)) (hm : bp_MI (bp_own_ M) idx M' As.length)
    (hM : bp_S G M' d' (.ref b :: As) h Φ') (hdd : d' + 1 ≤ d) (hn : bp_n M' ≤ 20) (hst : (st.map fun v => v.category).sum ≤ 8) {st0 : List Value} (hst0 : st0 = As.reverse ++ .ref b :: st)
    (kk : ∀ (v : Option Value) (h' : bp_H), Φ' (.inl v) h' → bp_W G M d (pc + 3) lv (v.toList ++ st) h' Φ) (kx : ∀ (E : String) (h' : bp_H), Φ' (.inr E) h' → bp_Wx G M d pc lv st h' E Φ) : bp_W G M d pc lv st0 h Φ := by
  intro p e R s m args below meth c H locs ls hC hR hS hL hu
  have hts := hC.2.2.2.2.2.1
  obtain ⟨m1, m2, m3, m4, m5⟩ := hm
  have hp := bp_pre (As := .ref b :: As) hC hR hS
  have hB := bp_callB (u0 := bp_us (bp_B G) H) hC m1 m2 hdd hn
  rw [m4] at hB
  exact bp_back hC hR hS hL hu (vx_runI (g := F0 m pc ls st0) (bp_fix hC) (hM _) ⟨hB, m3, hts _ m5⟩ hp rfl rfl hL.1 hst0 (lv_room hst) hd (bp_left hC hR hu)) kk kx
theorem bp_objInit {idx b : Nat} (hd : decode (bp_c M) pc = .ok (.invokespecial idx, 3)) (hw : Cond.methodLink (bp_own_ M) idx Lib.objectInit ∈ bp_UW ∧ Cond.instanceMethod Lib.objectInit ∈ bp_UW ∧ Cond.code Lib.objectInit ⟨#[0xb1]⟩ 1 none ∈ bp_UW) (hdd : 1 ≤ d) (hst : (st.map fun v => v.category).sum ≤ 8) (kk : bp_W G M d (pc + 3) lv st h Φ) : bp_W G M d pc lv (.ref b :: st) h Φ := by
  intro p e R s m args below meth c H locs ls hC hR hS hL hu
  have hts := hC.2.2.2.2.2.1
  obtain ⟨r1, r2, -⟩ := hC.2.2.2.2.2.2.2.2.2.2.2
  have h9 := lv_room (m := m) (pc := pc) (ls := ls) (rest := .ref b :: st) hst
  exact W.objInit hC.1 hC.2.1 hC.2.2.2.2.1 (hts _ hw.1) (hts _ hw.2.1) (hts _ hw.2.2) rfl (by rw [hC.2.2.1]; exact hL.1) rfl hd (by omega) (by omega) (kk p e R s m args below meth c H locs ls hC hR hS hL hu)
theorem bp_mmax {idx : Nat} {x y : Int32} (hd : decode (bp_c M) pc = .ok (.invokestatic idx, 3)) (hw : Cond.methodLink (bp_own_ M) idx Lib.Math.max.name ∈ bp_UW ∧ Cond.static Lib.Math.max.name ∈ bp_UW ∧ Cond.initialized "java/lang/Math" ∈ bp_UW ∧ Cond.code Lib.Math.max.name Lib.Math.max.code 2 (some .int) ∈ bp_UW) (hdd : 1 ≤ d) (hst : (st.map fun v => v.category).sum ≤ 8) (kk : bp_W G M d (pc + 3) lv (.int (if x < y then y else x) :: st) h Φ) : bp_W G M d pc lv (.int y :: .int x :: st) h Φ := by
  intro p e R s m args below meth c H locs ls hC hR hS hL hu
  have hts := hC.2.2.2.2.2.1
  obtain ⟨r1, r2, -⟩ := hC.2.2.2.2.2.2.2.2.2.2.2
  have hr := bp_left hC hR hu
  exact va_mmax hC.1 hC.2.1 (by rw [hC.2.2.1]; exact hL.1.symm) hC.2.2.2.2.1 (hts _ hw.1) (hts _ hw.2.1) (hts _ hw.2.2.1) (hts _ hw.2.2.2) (by omega) (by omega) (by omega) (by omega) hd (kk p e R s m args below meth c H locs ls hC hR hS hL hu)
theorem bp_mmin {idx : Nat} {x y : Int32} (hd : decode (bp_c M) pc = .ok (.invokestatic idx, 3)) (hw : Cond.methodLink (bp_own_ M) idx Lib.Math.min.name ∈ bp_UW ∧ Cond.static Lib.Math.min.name ∈ bp_UW ∧ Cond.initialized "java/lang/Math" ∈ bp_UW ∧ Cond.code Lib.Math.min.name Lib.Math.min.code 2 (some .int) ∈ bp_UW) (hdd : 1 ≤ d) (hst : (st.map fun v => v.category).sum ≤ 8) (kk : bp_W G M d (pc + 3) lv (.int (if y < x then y else x) :: st) h Φ) : bp_W G M d pc lv (.int y :: .int x :: st) h Φ := by
  intro p e R s m args below meth c H locs ls hC hR hS hL hu
  have hts := hC.2.2.2.2.2.1
  obtain ⟨r1, r2, -⟩ := hC.2.2.2.2.2.2.2.2.2.2.2
  have hr := bp_left hC hR hu
  exact va_mmin hC.1 hC.2.1 (by rw [hC.2.2.1]; exact hL.1.symm) hC.2.2.2.2.1 (hts _ hw.1) (hts _ hw.2.1) (hts _ hw.2.2.1) (hts _ hw.2.2.2) (by omega) (by omega) (by omega) (by omega) hd (kk p e R s m args below meth c H locs ls hC hR hS hL hu)
end BPE

