/-! ===== the judgement ===== -/
/-- the words that hold in every later state too -/
def bp_good (w : Cond) : Bool := goodWord w || (match w with
  | .castable _ _ => true
  | .declares _ => true
  | _ => false)
def bp_UW : List Cond := lw_tbl.filter bp_good
theorem bp_later {w : Cond} (hw : w ∈ bp_UW) {args a' : Array Value} {s U : State} (h : w.before args s = true) (hW : s.WarmedH U.vm) : w.before a' U = true := by
  have h1 : bp_good w = true := (List.mem_filter.mp hw).2
  unfold bp_good at h1
  rw [Bool.or_eq_true] at h1
  rcases h1 with h1 | h1
  · exact word_at hW (good_of_word h1) h
  · cases w <;> first | (exact va_Nw.use rfl (va_Nw.warmC hW (va_Nw.of rfl h))) | (exact va_Nw.use rfl (va_Nw.warmD hW (va_Nw.of rfl h))) | cases h1
/-- which classes of what is thrown don't fit which -/
def bp_ncs : List (String × String) := []
def bp_strs : List (String × Nat × String) := [(RX5, 28, "there are 4 machines"), (RX5, 228, "no such machine"), (RX5, 46, "capacity is out of range"), (RX5, 53, "an operation needs more tools"), (RX5, 58, "from is out of range"), (RX5, 60, "to is out of range"), (RX5, 79, "due is out of range"), (RX5, 84, "there are 8 jobs"), (RX5, 230, "no such job"), (RX5, 95, "length is out of range"), (RX5, 97, "family is out of range"), (RX5, 99, "tools is out of range"), (RX5, 104, "the job has 4 operations"), (RX5, 109, "the job is placed"), (RX5, 117, "the magazine is too small for the tools"), (RX5, 125, "no such family"), (RX5, 128, "minutes is out of range"), (RX5, 237, "the job has no operations"), (RX5, 232, "the job is not placed"), (RX5, 179, "no such place"), (RX5, 239, "no such operation")]
abbrev bp_A (G : bp_X) : Nat → Prop := fun q => bp_B G ≤ q
/-- what holds outside our own cells: classes, the empty array of the lists, what throws need, texts, the script -/
def bp_Fx (G : bp_X) (U : State) (H : Heap) : Prop :=
  va_K (bp_D G) bp_cl (bp_tys G) U ∧
  va_Z "java/util/ArrayList" "DEFAULTCAPACITY_EMPTY_ELEMENTDATA" "[Ljava/lang/Object;" (.ref (bp_e0 G)) (bp_A G) U H ∧
  va_T (.object "java/lang/Object") (bp_e0 G) 0 (fun _ => .null) (bp_A G) U H ∧
  vx_Zq Bundle.tN "UNASSIGNED_STACK" Bundle.steD (bp_A G) U H ∧ vx_Zq Bundle.tN "SUPPRESSED_SENTINEL" Bundle.listD (bp_A G) U H ∧
  (∀ q ∈ bp_strs, ∃ a : Nat, vk_R q.1 q.2.1 q.2.2 a U) ∧
  va_Mi "[Ljava/lang/Object;" (bp_mi G) U ∧ va_Dc U ∧ va_AO "java/lang/Object" U ∧ va_AOA .int U ∧
  va_X (bp_sb G) (bp_sL G) (bp_xs G) U H ∧ bp_sb G < bp_B G ∧ (bp_l G).stackTraces = false ∧ (∀ q ∈ bp_ncs, va_Nc q.1 q.2 U)
theorem va_AOA.moved {t : FieldType} {u U : State} (hvm : u.vm.Alike U.vm) (h : va_AOA t u) : va_AOA t U := by
  obtain ⟨comp, c, k, h1, h2, h3, h4, h5⟩ := arrayOverA_spec (show (Cond.arrayOver (.array t)).holds #[] _ none _ [] = true from h)
  obtain ⟨k', hk', he⟩ := hvm.2.2 _ _ h3
  have hi : (U.vm.classes.findIdx? fun (x : Class) => match x.kind with | .array component _ => component == comp | _ => false) = some c := by
    have hb : u.vm.bare = U.vm.bare := by first | exact hvm.bare_eq | exact hvm.bare_eq.symm
    have e1 := va_idx_bare U.vm comp
    have e2 := va_idx_bare u.vm comp
    rw [hb] at e2
    exact e1.symm.trans (e2.trans h2)
  have hkind : k'.kind = .array comp (.array t) := by rw [he]; exact h4
  have f1 : U.vm.findClass (FieldType.array t).toString = some comp := by rw [hvm.findClass]; exact h1
  have f2 : U.vm.findClass ("[" ++ (FieldType.array t).toString) = some c := by rw [hvm.findClass]; exact h5
  unfold va_AOA Cond.before Cond.holds
  simp only [Cond.value]
  rw [f1, Option.bind_some]
  refine (congrArg (fun o : Option Nat => (o.bind (fun c => (U.vm.classes[c]?).map fun (k : Class) => match k.kind with | .array _ ty => decide (ty = FieldType.array t) && decide (U.vm.findClass ("[" ++ (FieldType.array t).toString) = some c) | _ => false) == some true)) hi).trans ?_
  simp [hk', hkind, f2]
theorem bp_Fx.moved {G : bp_X} {U U' : State} {H H1 : Heap} (hW : U.WarmedH U'.vm) (hq : ∀ q : Nat, q < H.size → ¬ bp_A G q → H1[q]? = H[q]?) (h : bp_Fx G U H) : bp_Fx G U' H1 := by
  obtain ⟨h1, h2, h3, h4, h5, h6, h7, h8, h9, h10, h11, h12, h13, h14⟩ := h
  have hv := hW.alike
  refine ⟨va_K.moved hv h1, (h2.kept hq).moved hv, (h3.kept hq).moved hv, (h4.kept hq).moved hv, (h5.kept hq).moved hv, fun q hq => ?_, h7.moved hv, h8.moved hv, h9.moved hv, h10.moved hv, ?_, h12, h13, fun q hq => (h14 q hq).moved hv⟩
  · obtain ⟨a, ha⟩ := h6 q hq
    exact ⟨a, vk_R.warm hW ha⟩
  · refine (h11.kept ?_).moved hv
    obtain ⟨scr, e1, -⟩ := h11
    exact hq _ (Array.getElem?_eq_some_iff.mp e1).1 (Nat.not_le.mpr h12)
/-- a method: its class, its name, its code, its locals, its type, its table -/
abbrev bp_M : Type := String × MethodName × ByteArray × Nat × Option FieldType × List (Nat × Nat × Nat × Nat)
abbrev bp_own_ (M : bp_M) : String := M.1
abbrev bp_y (M : bp_M) : MethodName := M.2.1
abbrev bp_c (M : bp_M) : ByteArray := M.2.2.1
abbrev bp_n (M : bp_M) : Nat := M.2.2.2.1
abbrev bp_r (M : bp_M) : Option FieldType := M.2.2.2.2.1
abbrev bp_t (M : bp_M) : List (Nat × Nat × Nat × Nat) := M.2.2.2.2.2
/-- where the method stands: machine, code, words, what holds outside, room by its depth -/
def bp_C (G : bp_X) (M : bp_M) (d : Nat) (p : Program) (R : Room) (s : State) (m : MethodId) (args : Array Value) (meth : Method) (c : Code) : Prop :=
  p.tables.exec = Jvm.exec ∧ c.code = bp_c M ∧ c.maxLocals = bp_n M ∧ meth.sig.returnType = bp_r M ∧ s.vm.findClass (bp_own_ M) = some m.cls ∧ (∀ w ∈ bp_UW, w.before args s = true) ∧ meth.locks = false ∧ bp_Fx G s s.heap ∧
  (bp_B G ≤ s.heap.size ∧ bp_us (bp_B G) s.heap ≤ bp_max) ∧ c.exceptionTable.toList = tableOf (bp_t M) ∧ ((bp_y M).name = "<init>" → meth.name = "<init>") ∧
  (d ≤ R.frames ∧ 39 * d ≤ R.locals ∧ bp_max ≤ R.cells + bp_us (bp_B G) s.heap ∧ bp_max ≤ R.slots + bp_us (bp_B G) s.heap)
/-- how a method ends: a value, or the class of what it throws -/
abbrev bp_O : Type := Option Value ⊕ String
def bp_Qc (G : bp_X) (Φ : bp_O → bp_H → Prop) : Array Value → State → Outcome → State → Prop := fun _ st o t => ∃ (v : Option Value) (h' : bp_H), o = .returned v ∧ Φ (.inl v) h' ∧ bp_R G h' t.heap ∧ va_F (bp_A G) st t
def bp_XC (G : bp_X) (Φ : bp_O → bp_H → Prop) : String → State → State → Prop := fun E st t => ∃ h' : bp_H, Φ (.inr E) h' ∧ bp_R G h' t.heap ∧ va_F (bp_A G) st t
/-- from here, with these locals, this stack, this heap, the method ends as Φ says -/
def bp_W (G : bp_X) (M : bp_M) (d : Nat) (pc : Nat) (lv : List (Nat × Value)) (st : List Value) (h : bp_H) (Φ : bp_O → bp_H → Prop) : Prop :=
  ∀ (p : Program) (e : Env) (R : Room) (s : State) (m : MethodId) (args : Array Value) (below : List Frame) (meth : Method) (c : Code) (H : Heap) (locs : List Loc) (ls : Array Slot),
    bp_C G M d p R s m args meth c → bp_R G h H → va_S (bp_A G) s.heap H locs → lv_has ls (bp_n M) lv → bp_us (bp_B G) s.heap ≤ bp_us (bp_B G) H →
    W p (bp_l G) e R s m args below meth c H locs (bp_us (bp_B G) H - bp_us (bp_B G) s.heap) (bp_us (bp_B G) H - bp_us (bp_B G) s.heap)
      (vx_MQ below (bp_Qc G Φ) (bp_XC G Φ) args s (bp_max - bp_us (bp_B G) s.heap) (bp_max - bp_us (bp_B G) s.heap) (bp_A G)) (F0 m pc ls st)
theorem bp_look {lv : List (Nat × Value)} {i : Nat} {v : Value} (h : lv.lookup i = some v) : (i, v) ∈ lv := by
  induction lv with
  | nil => simp at h
  | cons q r ih =>
    obtain ⟨j, w⟩ := q
    rw [List.lookup_cons] at h
    by_cases e : i == j
    · rw [e] at h
      have e2 : i = j := by simpa using e
      subst e2
      have : w = v := by simpa using h
      subst this
      exact List.mem_cons_self
    · simp only [Bool.not_eq_true] at e
      rw [e] at h
      exact List.mem_cons_of_mem _ (ih h)
theorem bp_lk {ls : Array Slot} {nL : Nat} {lv : List (Nat × Value)} {i : Nat} {v : Value} (h : lv_has ls nL lv) (hk : lv.lookup i = some v) : ls[i]? = some (.val v) := h.2.2 (i, v) (bp_look hk)
/-- locals, with one written -/
def bp_st (lv : List (Nat × Value)) (i : Nat) (v : Value) : List (Nat × Value) := (i, v) :: lv.filter (fun q => !(q.1 == i) && !(q.1 + 1 == i && q.2.category == 2))
section BPR
variable {G : bp_X} {M : bp_M} {d pc : Nat} {lv : List (Nat × Value)} {st : List Value} {h : bp_H} {Φ : bp_O → bp_H → Prop}
/-- fewer locals, or in another order -/
theorem bp_lv {lv' : List (Nat × Value)} (hl : ∀ q ∈ lv', lv.lookup q.1 = some q.2) (k : bp_W G M d pc lv' st h Φ) : bp_W G M d pc lv st h Φ := by
  intro p e R s m args below meth c H locs ls hC hR hS hL hu
  exact k p e R s m args below meth c H locs ls hC hR hS ⟨hL.1, hL.2.1, fun q hq => bp_lk hL (hl q hq)⟩ hu
theorem bp_mono {Φ' : bp_O → bp_H → Prop} (hΦ : ∀ o h', Φ' o h' → Φ o h') (k : bp_W G M d pc lv st h Φ') : bp_W G M d pc lv st h Φ := by
  intro p e R s m args below meth c H locs ls hC hR hS hL hu T hT X
  obtain ⟨t, a1, o, b1, b2, b3⟩ := k p e R s m args below meth c H locs ls hC hR hS hL hu T hT X
  refine ⟨t, a1, o, b1, b2, ?_⟩
  rcases b3 with ⟨⟨v, h', c1, c2, c3⟩, b4⟩ | ⟨q, c0, E, ce, L, ⟨h', c1, c2⟩, b4⟩
  · exact Or.inl ⟨⟨v, h', c1, hΦ _ _ c2, c3⟩, b4⟩
  · exact Or.inr ⟨q, c0, E, ce, L, ⟨h', hΦ _ _ c1, c2⟩, b4⟩
/-- the heap's functions by other ones, where they say the same -/
theorem bp_heap {h2 : bp_H} (e : ∀ H, bp_R G h H → bp_R G h2 H) (k : bp_W G M d pc lv st h2 Φ) : bp_W G M d pc lv st h Φ := by
  intro p e1 R s m args below meth c H locs ls hC hR hS hL hu
  exact k p e1 R s m args below meth c H locs ls hC (e H hR) hS hL hu
theorem bp_eq {st2 : List Value} {h2 : bp_H} {lv2 : List (Nat × Value)} (k : bp_W G M d pc lv2 st2 h2 Φ) (e1 : lv = lv2) (e2 : st = st2) (e3 : h = h2) : bp_W G M d pc lv st h Φ := by
  subst e1; subst e2; subst e3; exact k
theorem bp_iconst {n : Int} {v : Int32} (hd : decode (bp_c M) pc = .ok (.iconst n, 1)) (hv : Int32.ofInt n = v) (k : bp_W G M d (pc + 1) lv (.int v :: st) h Φ) : bp_W G M d pc lv (st) h Φ := by
  intro p e R s m args below meth c H locs ls hC hR hS hL hu
  exact lv_iconst hC.1 hC.2.1 hd hv (k p e R s m args below meth c H locs ls hC hR hS hL hu)
theorem bp_bipush {n : Int} {v : Int32} (hd : decode (bp_c M) pc = .ok (.bipush n, 2)) (hv : (Int8.ofInt n).toInt32 = v) (k : bp_W G M d (pc + 2) lv (.int v :: st) h Φ) : bp_W G M d pc lv (st) h Φ := by
  intro p e R s m args below meth c H locs ls hC hR hS hL hu
  exact lv_bipush hC.1 hC.2.1 hd hv (k p e R s m args below meth c H locs ls hC hR hS hL hu)
theorem bp_sipush {n : Int} {v : Int32} (hd : decode (bp_c M) pc = .ok (.sipush n, 3)) (hv : (Int16.ofInt n).toInt32 = v) (k : bp_W G M d (pc + 3) lv (.int v :: st) h Φ) : bp_W G M d pc lv (st) h Φ := by
  intro p e R s m args below meth c H locs ls hC hR hS hL hu
  exact lv_sipush hC.1 hC.2.1 hd hv (k p e R s m args below meth c H locs ls hC hR hS hL hu)
theorem bp_lconst {n : Fin 2} {v : Int64} (hd : decode (bp_c M) pc = .ok (.lconst n, 1)) (hv : Int64.ofNat (n : Nat) = v) (k : bp_W G M d (pc + 1) lv (.long v :: st) h Φ) : bp_W G M d pc lv (st) h Φ := by
  intro p e R s m args below meth c H locs ls hC hR hS hL hu
  exact lv_lconst hC.1 hC.2.1 hd hv (k p e R s m args below meth c H locs ls hC hR hS hL hu)
theorem bp_null (hd : decode (bp_c M) pc = .ok (.aconst_null, 1)) (k : bp_W G M d (pc + 1) lv (.null :: st) h Φ) : bp_W G M d pc lv (st) h Φ := by
  intro p e R s m args below meth c H locs ls hC hR hS hL hu
  exact lv_null hC.1 hC.2.1 hd (k p e R s m args below meth c H locs ls hC hR hS hL hu)
theorem bp_iload_n {i : Fin 4} {x : Int32} (hd : decode (bp_c M) pc = .ok (.iload_n i, 1)) (hk : lv.lookup (i : Nat) = some (.int x)) (k : bp_W G M d (pc + 1) lv (.int x :: st) h Φ) : bp_W G M d pc lv (st) h Φ := by
  intro p e R s m args below meth c H locs ls hC hR hS hL hu
  exact lv_iload_n hC.1 hC.2.1 hd rfl (bp_lk hL hk) (k p e R s m args below meth c H locs ls hC hR hS hL hu)
theorem bp_iload {i : Nat} {x : Int32} (hd : decode (bp_c M) pc = .ok (.iload i, 2)) (hk : lv.lookup i = some (.int x)) (k : bp_W G M d (pc + 2) lv (.int x :: st) h Φ) : bp_W G M d pc lv (st) h Φ := by
  intro p e R s m args below meth c H locs ls hC hR hS hL hu
  exact lv_iload hC.1 hC.2.1 hd (bp_lk hL hk) (k p e R s m args below meth c H locs ls hC hR hS hL hu)
theorem bp_aload_n {i : Fin 4} {x : Nat} (hd : decode (bp_c M) pc = .ok (.aload_n i, 1)) (hk : lv.lookup (i : Nat) = some (.ref x)) (k : bp_W G M d (pc + 1) lv (.ref x :: st) h Φ) : bp_W G M d pc lv (st) h Φ := by
  intro p e R s m args below meth c H locs ls hC hR hS hL hu
  exact lv_aload_n hC.1 hC.2.1 hd rfl (bp_lk hL hk) (k p e R s m args below meth c H locs ls hC hR hS hL hu)
theorem bp_aload {i : Nat} {x : Nat} (hd : decode (bp_c M) pc = .ok (.aload i, 2)) (hk : lv.lookup i = some (.ref x)) (k : bp_W G M d (pc + 2) lv (.ref x :: st) h Φ) : bp_W G M d pc lv (st) h Φ := by
  intro p e R s m args below meth c H locs ls hC hR hS hL hu
  exact lv_aload hC.1 hC.2.1 hd (bp_lk hL hk) (k p e R s m args below meth c H locs ls hC hR hS hL hu)
theorem bp_aload_nN {i : Fin 4} (hd : decode (bp_c M) pc = .ok (.aload_n i, 1)) (hk : lv.lookup (i : Nat) = some .null) (k : bp_W G M d (pc + 1) lv (.null :: st) h Φ) : bp_W G M d pc lv (st) h Φ := by
  intro p e R s m args below meth c H locs ls hC hR hS hL hu
  exact lv_aload_nN hC.1 hC.2.1 hd rfl (bp_lk hL hk) (k p e R s m args below meth c H locs ls hC hR hS hL hu)
theorem bp_aloadN {i : Nat} (hd : decode (bp_c M) pc = .ok (.aload i, 2)) (hk : lv.lookup i = some .null) (k : bp_W G M d (pc + 2) lv (.null :: st) h Φ) : bp_W G M d pc lv (st) h Φ := by
  intro p e R s m args below meth c H locs ls hC hR hS hL hu
  exact lv_aloadN hC.1 hC.2.1 hd (bp_lk hL hk) (k p e R s m args below meth c H locs ls hC hR hS hL hu)
theorem bp_aload_nq {i : Fin 4} {r : Option Nat} (hd : decode (bp_c M) pc = .ok (.aload_n i, 1)) (hk : lv.lookup (i : Nat) = some (va_rf r)) (k : bp_W G M d (pc + 1) lv (va_rf r :: st) h Φ) : bp_W G M d pc lv st h Φ := by
  cases r with
  | none => exact bp_aload_nN hd hk k
  | some x => exact bp_aload_n hd hk k
theorem bp_aloadq {i : Nat} {r : Option Nat} (hd : decode (bp_c M) pc = .ok (.aload i, 2)) (hk : lv.lookup i = some (va_rf r)) (k : bp_W G M d (pc + 2) lv (va_rf r :: st) h Φ) : bp_W G M d pc lv st h Φ := by
  cases r with
  | none => exact bp_aloadN hd hk k
  | some x => exact bp_aload hd hk k
theorem bp_istore_n {i : Fin 4} {x : Int32} (hd : decode (bp_c M) pc = .ok (.istore_n i, 1)) (hi : (i : Nat) < bp_n M) (k : bp_W G M d (pc + 1) (bp_st lv (i : Nat) (.int x)) st h Φ) : bp_W G M d pc lv (.int x :: st) h Φ := by
  intro p e R s m args below meth c H locs ls hC hR hS hL hu
  exact lv_istore_n hC.1 hC.2.1 hd rfl hL hi rfl (fun ls' hL' => k p e R s m args below meth c H locs ls' hC hR hS hL' hu)
theorem bp_istore {i : Nat} {x : Int32} (hd : decode (bp_c M) pc = .ok (.istore i, 2)) (hi : i < bp_n M) (k : bp_W G M d (pc + 2) (bp_st lv i (.int x)) st h Φ) : bp_W G M d pc lv (.int x :: st) h Φ := by
  intro p e R s m args below meth c H locs ls hC hR hS hL hu
  exact lv_istore hC.1 hC.2.1 hd hL hi rfl (fun ls' hL' => k p e R s m args below meth c H locs ls' hC hR hS hL' hu)
theorem bp_astore_n {i : Fin 4} {x : Nat} (hd : decode (bp_c M) pc = .ok (.astore_n i, 1)) (hi : (i : Nat) < bp_n M) (k : bp_W G M d (pc + 1) (bp_st lv (i : Nat) (.ref x)) st h Φ) : bp_W G M d pc lv (.ref x :: st) h Φ := by
  intro p e R s m args below meth c H locs ls hC hR hS hL hu
  exact lv_astore_n hC.1 hC.2.1 hd rfl hL hi rfl (fun ls' hL' => k p e R s m args below meth c H locs ls' hC hR hS hL' hu)
theorem bp_astore {i : Nat} {x : Nat} (hd : decode (bp_c M) pc = .ok (.astore i, 2)) (hi : i < bp_n M) (k : bp_W G M d (pc + 2) (bp_st lv i (.ref x)) st h Φ) : bp_W G M d pc lv (.ref x :: st) h Φ := by
  intro p e R s m args below meth c H locs ls hC hR hS hL hu
  exact lv_astore hC.1 hC.2.1 hd hL hi rfl (fun ls' hL' => k p e R s m args below meth c H locs ls' hC hR hS hL' hu)
theorem bp_astore_nN {i : Fin 4} (hd : decode (bp_c M) pc = .ok (.astore_n i, 1)) (hi : (i : Nat) < bp_n M) (k : bp_W G M d (pc + 1) (bp_st lv (i : Nat) .null) st h Φ) : bp_W G M d pc lv (.null :: st) h Φ := by
  intro p e R s m args below meth c H locs ls hC hR hS hL hu
  exact lv_astore_nN hC.1 hC.2.1 hd rfl hL hi rfl (fun ls' hL' => k p e R s m args below meth c H locs ls' hC hR hS hL' hu)
theorem bp_astoreN {i : Nat} (hd : decode (bp_c M) pc = .ok (.astore i, 2)) (hi : i < bp_n M) (k : bp_W G M d (pc + 2) (bp_st lv i .null) st h Φ) : bp_W G M d pc lv (.null :: st) h Φ := by
  intro p e R s m args below meth c H locs ls hC hR hS hL hu
  exact lv_astoreN hC.1 hC.2.1 hd hL hi rfl (fun ls' hL' => k p e R s m args below meth c H locs ls' hC hR hS hL' hu)
theorem bp_astore_nq {i : Fin 4} {r : Option Nat} (hd : decode (bp_c M) pc = .ok (.astore_n i, 1)) (hi : (i : Nat) < bp_n M) (k : bp_W G M d (pc + 1) (bp_st lv (i : Nat) (va_rf r)) st h Φ) : bp_W G M d pc lv (va_rf r :: st) h Φ := by
  cases r with
  | none => exact bp_astore_nN hd hi k
  | some x => exact bp_astore_n hd hi k
theorem bp_astoreq {i : Nat} {r : Option Nat} (hd : decode (bp_c M) pc = .ok (.astore i, 2)) (hi : i < bp_n M) (k : bp_W G M d (pc + 2) (bp_st lv i (va_rf r)) st h Φ) : bp_W G M d pc lv (va_rf r :: st) h Φ := by
  cases r with
  | none => exact bp_astoreN hd hi k
  | some x => exact bp_astore hd hi k
theorem bp_look_at {i : Nat} {v : Value} (h : lv.lookup i = some v) : ∃ k : Nat, lv[k]? = some (i, v) := List.getElem?_of_mem (bp_look h)
theorem bp_iinc {i : Nat} {n : Int} {x v : Int32} (hd : decode (bp_c M) pc = .ok (.iinc i n, 3)) (hk : lv.lookup i = some (.int x)) (hi : i < bp_n M) (hv : x + Int32.ofInt n = v) (k : bp_W G M d (pc + 3) (bp_st lv i (.int v)) st h Φ) : bp_W G M d pc lv st h Φ := by
  intro p e R s m args below meth c H locs ls hC hR hS hL hu
  obtain ⟨j, hj⟩ := bp_look_at hk
  exact lv_iinc hC.1 hC.2.1 hd hL hj hv hi rfl (fun ls' hL' => k p e R s m args below meth c H locs ls' hC hR hS hL' hu)
theorem bp_iadd {x y : Int32} (hd : decode (bp_c M) pc = .ok (.iadd, 1)) (k : bp_W G M d (pc + 1) lv (.int (x + y) :: st) h Φ) : bp_W G M d pc lv (.int y :: .int x :: st) h Φ := by
  intro p e R s m args below meth c H locs ls hC hR hS hL hu
  exact lv_iadd hC.1 hC.2.1 hd (k p e R s m args below meth c H locs ls hC hR hS hL hu)
theorem bp_isub {x y : Int32} (hd : decode (bp_c M) pc = .ok (.isub, 1)) (k : bp_W G M d (pc + 1) lv (.int (x - y) :: st) h Φ) : bp_W G M d pc lv (.int y :: .int x :: st) h Φ := by
  intro p e R s m args below meth c H locs ls hC hR hS hL hu
  exact lv_isub hC.1 hC.2.1 hd (k p e R s m args below meth c H locs ls hC hR hS hL hu)
theorem bp_imul {x y : Int32} (hd : decode (bp_c M) pc = .ok (.imul, 1)) (k : bp_W G M d (pc + 1) lv (.int (x * y) :: st) h Φ) : bp_W G M d pc lv (.int y :: .int x :: st) h Φ := by
  intro p e R s m args below meth c H locs ls hC hR hS hL hu
  exact lv_imul hC.1 hC.2.1 hd (k p e R s m args below meth c H locs ls hC hR hS hL hu)
theorem bp_iand {x y : Int32} (hd : decode (bp_c M) pc = .ok (.iand, 1)) (k : bp_W G M d (pc + 1) lv (.int (x &&& y) :: st) h Φ) : bp_W G M d pc lv (.int y :: .int x :: st) h Φ := by
  intro p e R s m args below meth c H locs ls hC hR hS hL hu
  exact lv_iand hC.1 hC.2.1 hd (k p e R s m args below meth c H locs ls hC hR hS hL hu)
theorem bp_ior {x y : Int32} (hd : decode (bp_c M) pc = .ok (.ior, 1)) (k : bp_W G M d (pc + 1) lv (.int (x ||| y) :: st) h Φ) : bp_W G M d pc lv (.int y :: .int x :: st) h Φ := by
  intro p e R s m args below meth c H locs ls hC hR hS hL hu
  exact lv_ior hC.1 hC.2.1 hd (k p e R s m args below meth c H locs ls hC hR hS hL hu)
theorem bp_ixor {x y : Int32} (hd : decode (bp_c M) pc = .ok (.ixor, 1)) (k : bp_W G M d (pc + 1) lv (.int (x ^^^ y) :: st) h Φ) : bp_W G M d pc lv (.int y :: .int x :: st) h Φ := by
  intro p e R s m args below meth c H locs ls hC hR hS hL hu
  exact lv_ixor hC.1 hC.2.1 hd (k p e R s m args below meth c H locs ls hC hR hS hL hu)
theorem bp_ishl {x y : Int32} (hd : decode (bp_c M) pc = .ok (.ishl, 1)) (k : bp_W G M d (pc + 1) lv (.int (x <<< (y &&& 31)) :: st) h Φ) : bp_W G M d pc lv (.int y :: .int x :: st) h Φ := by
  intro p e R s m args below meth c H locs ls hC hR hS hL hu
  exact lv_ishl hC.1 hC.2.1 hd (k p e R s m args below meth c H locs ls hC hR hS hL hu)
theorem bp_ishr {x y : Int32} (hd : decode (bp_c M) pc = .ok (.ishr, 1)) (k : bp_W G M d (pc + 1) lv (.int (x >>> (y &&& 31)) :: st) h Φ) : bp_W G M d pc lv (.int y :: .int x :: st) h Φ := by
  intro p e R s m args below meth c H locs ls hC hR hS hL hu
  exact lv_ishr hC.1 hC.2.1 hd (k p e R s m args below meth c H locs ls hC hR hS hL hu)
theorem bp_idiv {x y : Int32} (hd : decode (bp_c M) pc = .ok (.idiv, 1)) (hy : ¬ y = 0) (k : bp_W G M d (pc + 1) lv (.int (x / y) :: st) h Φ) : bp_W G M d pc lv (.int y :: .int x :: st) h Φ := by
  intro p e R s m args below meth c H locs ls hC hR hS hL hu
  exact lv_idiv hC.1 hC.2.1 hd hy (k p e R s m args below meth c H locs ls hC hR hS hL hu)
theorem bp_irem {x y : Int32} (hd : decode (bp_c M) pc = .ok (.irem, 1)) (hy : ¬ y = 0) (k : bp_W G M d (pc + 1) lv (.int (x - x / y * y) :: st) h Φ) : bp_W G M d pc lv (.int y :: .int x :: st) h Φ := by
  intro p e R s m args below meth c H locs ls hC hR hS hL hu
  exact lv_irem hC.1 hC.2.1 hd hy (k p e R s m args below meth c H locs ls hC hR hS hL hu)
theorem bp_ineg {x : Int32} (hd : decode (bp_c M) pc = .ok (.ineg, 1)) (k : bp_W G M d (pc + 1) lv (.int (-x) :: st) h Φ) : bp_W G M d pc lv (.int x :: st) h Φ := by
  intro p e R s m args below meth c H locs ls hC hR hS hL hu
  exact lv_ineg hC.1 hC.2.1 hd (k p e R s m args below meth c H locs ls hC hR hS hL hu)
theorem bp_iushr {x y v : Int32} (hd : decode (bp_c M) pc = .ok (.iushr, 1)) (hv : (x.toUInt32 >>> (y.toUInt32 &&& Int32.toUInt32 31)).toInt32 = v) (k : bp_W G M d (pc + 1) lv (.int v :: st) h Φ) : bp_W G M d pc lv (.int y :: .int x :: st) h Φ := by
  intro p e R s m args below meth c H locs ls hC hR hS hL hu
  exact lv_iushr hC.1 hC.2.1 hd hv (k p e R s m args below meth c H locs ls hC hR hS hL hu)
theorem bp_i2l {x : Int32} (hd : decode (bp_c M) pc = .ok (.i2l, 1)) (k : bp_W G M d (pc + 1) lv (.long x.toInt64 :: st) h Φ) : bp_W G M d pc lv (.int x :: st) h Φ := by
  intro p e R s m args below meth c H locs ls hC hR hS hL hu
  exact lv_i2l hC.1 hC.2.1 hd rfl (k p e R s m args below meth c H locs ls hC hR hS hL hu)
theorem bp_lcmp {x y : Int64} (hd : decode (bp_c M) pc = .ok (.lcmp, 1)) (k : bp_W G M d (pc + 1) lv (.int (lg_cmp x y) :: st) h Φ) : bp_W G M d pc lv (.long y :: .long x :: st) h Φ := by
  intro p e R s m args below meth c H locs ls hC hR hS hL hu
  exact W.lcmp hC.1 hC.2.1 hd (k p e R s m args below meth c H locs ls hC hR hS hL hu)
theorem bp_dup {v : Value} (hd : decode (bp_c M) pc = .ok (.dup, 1)) (hv : v.category = 1) (k : bp_W G M d (pc + 1) lv (v :: v :: st) h Φ) : bp_W G M d pc lv (v :: st) h Φ := by
  intro p e R s m args below meth c H locs ls hC hR hS hL hu
  exact lv_dup hC.1 hC.2.1 hd hv (k p e R s m args below meth c H locs ls hC hR hS hL hu)
theorem bp_pop {v : Value} (hd : decode (bp_c M) pc = .ok (.pop, 1)) (hv : v.category = 1) (k : bp_W G M d (pc + 1) lv (st) h Φ) : bp_W G M d pc lv (v :: st) h Φ := by
  intro p e R s m args below meth c H locs ls hC hR hS hL hu
  exact lv_pop hC.1 hC.2.1 hd hv (k p e R s m args below meth c H locs ls hC hR hS hL hu)
theorem bp_dup2 {v w : Value} (hd : decode (bp_c M) pc = .ok (.dup2, 1)) (hv : v.category = 1) (hw : w.category = 1) (k : bp_W G M d (pc + 1) lv (v :: w :: v :: w :: st) h Φ) : bp_W G M d pc lv (v :: w :: st) h Φ := by
  intro p e R s m args below meth c H locs ls hC hR hS hL hu
  exact lv_dup2_11 hC.1 hC.2.1 hd hv hw (k p e R s m args below meth c H locs ls hC hR hS hL hu)
theorem bp_dup_x1 {v w : Value} (hd : decode (bp_c M) pc = .ok (.dup_x1, 1)) (hv : v.category = 1) (hw : w.category = 1) (k : bp_W G M d (pc + 1) lv (v :: w :: v :: st) h Φ) : bp_W G M d pc lv (v :: w :: st) h Φ := by
  intro p e R s m args below meth c H locs ls hC hR hS hL hu
  exact lv_dup_x1 hC.1 hC.2.1 hd hv hw (k p e R s m args below meth c H locs ls hC hR hS hL hu)
theorem bp_if_eq {x : Int32} {off : Int} {tgt : Nat} (hd : decode (bp_c M) pc = .ok (.ifCond .eq off, 3)) (ht : (pc : Int) + off = (tgt : Int)) (kt : x = 0 → bp_W G M d tgt lv st h Φ) (kf : ¬ x = 0 → bp_W G M d (pc + 3) lv st h Φ) : bp_W G M d pc lv (.int x :: st) h Φ := by
  intro p e R s m args below meth c H locs ls hC hR hS hL hu
  exact lv_if_eq hC.1 hC.2.1 hd ht (fun z => kt z p e R s m args below meth c H locs ls hC hR hS hL hu) (fun z => kf z p e R s m args below meth c H locs ls hC hR hS hL hu)
theorem bp_if_ne {x : Int32} {off : Int} {tgt : Nat} (hd : decode (bp_c M) pc = .ok (.ifCond .ne off, 3)) (ht : (pc : Int) + off = (tgt : Int)) (kt : ¬ x = 0 → bp_W G M d tgt lv st h Φ) (kf : x = 0 → bp_W G M d (pc + 3) lv st h Φ) : bp_W G M d pc lv (.int x :: st) h Φ := by
  intro p e R s m args below meth c H locs ls hC hR hS hL hu
  exact lv_if_ne hC.1 hC.2.1 hd ht (fun z => kt z p e R s m args below meth c H locs ls hC hR hS hL hu) (fun z => kf z p e R s m args below meth c H locs ls hC hR hS hL hu)
theorem bp_if_lt {x : Int32} {off : Int} {tgt : Nat} (hd : decode (bp_c M) pc = .ok (.ifCond .lt off, 3)) (ht : (pc : Int) + off = (tgt : Int)) (kt : x < 0 → bp_W G M d tgt lv st h Φ) (kf : ¬ x < 0 → bp_W G M d (pc + 3) lv st h Φ) : bp_W G M d pc lv (.int x :: st) h Φ := by
  intro p e R s m args below meth c H locs ls hC hR hS hL hu
  exact lv_if_lt hC.1 hC.2.1 hd ht (fun z => kt z p e R s m args below meth c H locs ls hC hR hS hL hu) (fun z => kf z p e R s m args below meth c H locs ls hC hR hS hL hu)
theorem bp_if_ge {x : Int32} {off : Int} {tgt : Nat} (hd : decode (bp_c M) pc = .ok (.ifCond .ge off, 3)) (ht : (pc : Int) + off = (tgt : Int)) (kt : 0 ≤ x → bp_W G M d tgt lv st h Φ) (kf : ¬ 0 ≤ x → bp_W G M d (pc + 3) lv st h Φ) : bp_W G M d pc lv (.int x :: st) h Φ := by
  intro p e R s m args below meth c H locs ls hC hR hS hL hu
  exact lv_if_ge hC.1 hC.2.1 hd ht (fun z => kt z p e R s m args below meth c H locs ls hC hR hS hL hu) (fun z => kf z p e R s m args below meth c H locs ls hC hR hS hL hu)
theorem bp_if_gt {x : Int32} {off : Int} {tgt : Nat} (hd : decode (bp_c M) pc = .ok (.ifCond .gt off, 3)) (ht : (pc : Int) + off = (tgt : Int)) (kt : 0 < x → bp_W G M d tgt lv st h Φ) (kf : ¬ 0 < x → bp_W G M d (pc + 3) lv st h Φ) : bp_W G M d pc lv (.int x :: st) h Φ := by
  intro p e R s m args below meth c H locs ls hC hR hS hL hu
  exact lv_if_gt hC.1 hC.2.1 hd ht (fun z => kt z p e R s m args below meth c H locs ls hC hR hS hL hu) (fun z => kf z p e R s m args below meth c H locs ls hC hR hS hL hu)
theorem bp_if_le {x : Int32} {off : Int} {tgt : Nat} (hd : decode (bp_c M) pc = .ok (.ifCond .le off, 3)) (ht : (pc : Int) + off = (tgt : Int)) (kt : x ≤ 0 → bp_W G M d tgt lv st h Φ) (kf : ¬ x ≤ 0 → bp_W G M d (pc + 3) lv st h Φ) : bp_W G M d pc lv (.int x :: st) h Φ := by
  intro p e R s m args below meth c H locs ls hC hR hS hL hu
  exact lv_if_le hC.1 hC.2.1 hd ht (fun z => kt z p e R s m args below meth c H locs ls hC hR hS hL hu) (fun z => kf z p e R s m args below meth c H locs ls hC hR hS hL hu)
theorem bp_icmp_eq {x y : Int32} {off : Int} {tgt : Nat} (hd : decode (bp_c M) pc = .ok (.if_icmp .eq off, 3)) (ht : (pc : Int) + off = (tgt : Int)) (kt : x = y → bp_W G M d tgt lv st h Φ) (kf : ¬ x = y → bp_W G M d (pc + 3) lv st h Φ) : bp_W G M d pc lv (.int y :: .int x :: st) h Φ := by
  intro p e R s m args below meth c H locs ls hC hR hS hL hu
  exact lv_icmp_eq hC.1 hC.2.1 hd ht (fun z => kt z p e R s m args below meth c H locs ls hC hR hS hL hu) (fun z => kf z p e R s m args below meth c H locs ls hC hR hS hL hu)
theorem bp_icmp_ne {x y : Int32} {off : Int} {tgt : Nat} (hd : decode (bp_c M) pc = .ok (.if_icmp .ne off, 3)) (ht : (pc : Int) + off = (tgt : Int)) (kt : ¬ x = y → bp_W G M d tgt lv st h Φ) (kf : x = y → bp_W G M d (pc + 3) lv st h Φ) : bp_W G M d pc lv (.int y :: .int x :: st) h Φ := by
  intro p e R s m args below meth c H locs ls hC hR hS hL hu
  exact lv_icmp_ne hC.1 hC.2.1 hd ht (fun z => kt z p e R s m args below meth c H locs ls hC hR hS hL hu) (fun z => kf z p e R s m args below meth c H locs ls hC hR hS hL hu)
theorem bp_icmp_lt {x y : Int32} {off : Int} {tgt : Nat} (hd : decode (bp_c M) pc = .ok (.if_icmp .lt off, 3)) (ht : (pc : Int) + off = (tgt : Int)) (kt : x < y → bp_W G M d tgt lv st h Φ) (kf : ¬ x < y → bp_W G M d (pc + 3) lv st h Φ) : bp_W G M d pc lv (.int y :: .int x :: st) h Φ := by
  intro p e R s m args below meth c H locs ls hC hR hS hL hu
  exact lv_icmp_lt hC.1 hC.2.1 hd ht (fun z => kt z p e R s m args below meth c H locs ls hC hR hS hL hu) (fun z => kf z p e R s m args below meth c H locs ls hC hR hS hL hu)
theorem bp_icmp_ge {x y : Int32} {off : Int} {tgt : Nat} (hd : decode (bp_c M) pc = .ok (.if_icmp .ge off, 3)) (ht : (pc : Int) + off = (tgt : Int)) (kt : y ≤ x → bp_W G M d tgt lv st h Φ) (kf : ¬ y ≤ x → bp_W G M d (pc + 3) lv st h Φ) : bp_W G M d pc lv (.int y :: .int x :: st) h Φ := by
  intro p e R s m args below meth c H locs ls hC hR hS hL hu
  exact lv_icmp_ge hC.1 hC.2.1 hd ht (fun z => kt z p e R s m args below meth c H locs ls hC hR hS hL hu) (fun z => kf z p e R s m args below meth c H locs ls hC hR hS hL hu)
theorem bp_icmp_gt {x y : Int32} {off : Int} {tgt : Nat} (hd : decode (bp_c M) pc = .ok (.if_icmp .gt off, 3)) (ht : (pc : Int) + off = (tgt : Int)) (kt : y < x → bp_W G M d tgt lv st h Φ) (kf : ¬ y < x → bp_W G M d (pc + 3) lv st h Φ) : bp_W G M d pc lv (.int y :: .int x :: st) h Φ := by
  intro p e R s m args below meth c H locs ls hC hR hS hL hu
  exact lv_icmp_gt hC.1 hC.2.1 hd ht (fun z => kt z p e R s m args below meth c H locs ls hC hR hS hL hu) (fun z => kf z p e R s m args below meth c H locs ls hC hR hS hL hu)
theorem bp_icmp_le {x y : Int32} {off : Int} {tgt : Nat} (hd : decode (bp_c M) pc = .ok (.if_icmp .le off, 3)) (ht : (pc : Int) + off = (tgt : Int)) (kt : x ≤ y → bp_W G M d tgt lv st h Φ) (kf : ¬ x ≤ y → bp_W G M d (pc + 3) lv st h Φ) : bp_W G M d pc lv (.int y :: .int x :: st) h Φ := by
  intro p e R s m args below meth c H locs ls hC hR hS hL hu
  exact lv_icmp_le hC.1 hC.2.1 hd ht (fun z => kt z p e R s m args below meth c H locs ls hC hR hS hL hu) (fun z => kf z p e R s m args below meth c H locs ls hC hR hS hL hu)
theorem bp_acmp_eq {rx ry : Option Nat} {off : Int} {tgt : Nat} (hd : decode (bp_c M) pc = .ok (.if_acmp .eq off, 3)) (ht : (pc : Int) + off = (tgt : Int)) (kt : rx = ry → bp_W G M d tgt lv st h Φ) (kf : ¬ rx = ry → bp_W G M d (pc + 3) lv st h Φ) : bp_W G M d pc lv (va_rf ry :: va_rf rx :: st) h Φ := by
  intro p e R s m args below meth c H locs ls hC hR hS hL hu
  exact lv_acmp_eq hC.1 hC.2.1 hd ht (fun z => kt z p e R s m args below meth c H locs ls hC hR hS hL hu) (fun z => kf z p e R s m args below meth c H locs ls hC hR hS hL hu)
theorem bp_acmp_ne {rx ry : Option Nat} {off : Int} {tgt : Nat} (hd : decode (bp_c M) pc = .ok (.if_acmp .ne off, 3)) (ht : (pc : Int) + off = (tgt : Int)) (kt : ¬ rx = ry → bp_W G M d tgt lv st h Φ) (kf : rx = ry → bp_W G M d (pc + 3) lv st h Φ) : bp_W G M d pc lv (va_rf ry :: va_rf rx :: st) h Φ := by
  intro p e R s m args below meth c H locs ls hC hR hS hL hu
  exact lv_acmp_ne hC.1 hC.2.1 hd ht (fun z => kt z p e R s m args below meth c H locs ls hC hR hS hL hu) (fun z => kf z p e R s m args below meth c H locs ls hC hR hS hL hu)
theorem bp_goto {off : Int} {tgt : Nat} (hd : decode (bp_c M) pc = .ok (.goto off, 3)) (ht : (pc : Int) + off = (tgt : Int)) (k : bp_W G M d tgt lv st h Φ) : bp_W G M d pc lv st h Φ := by
  intro p e R s m args below meth c H locs ls hC hR hS hL hu
  exact lv_goto hC.1 hC.2.1 hd ht (k p e R s m args below meth c H locs ls hC hR hS hL hu)
theorem bp_ifnull {x : Nat} {off : Int} (hd : decode (bp_c M) pc = .ok (.ifnull off, 3)) (k : bp_W G M d (pc + 3) lv st h Φ) : bp_W G M d pc lv (.ref x :: st) h Φ := by
  intro p e R s m args below meth c H locs ls hC hR hS hL hu
  exact lv_ifnull hC.1 hC.2.1 hd (k p e R s m args below meth c H locs ls hC hR hS hL hu)
theorem bp_ifnullN {off : Int} {tgt : Nat} (hd : decode (bp_c M) pc = .ok (.ifnull off, 3)) (ht : (pc : Int) + off = (tgt : Int)) (k : bp_W G M d tgt lv st h Φ) : bp_W G M d pc lv (.null :: st) h Φ := by
  intro p e R s m args below meth c H locs ls hC hR hS hL hu
  exact lv_ifnullN hC.1 hC.2.1 hd ht (k p e R s m args below meth c H locs ls hC hR hS hL hu)
theorem bp_ifnonnull {x : Nat} {off : Int} {tgt : Nat} (hd : decode (bp_c M) pc = .ok (.ifnonnull off, 3)) (ht : (pc : Int) + off = (tgt : Int)) (k : bp_W G M d tgt lv st h Φ) : bp_W G M d pc lv (.ref x :: st) h Φ := by
  intro p e R s m args below meth c H locs ls hC hR hS hL hu
  exact lv_ifnonnull hC.1 hC.2.1 hd ht (k p e R s m args below meth c H locs ls hC hR hS hL hu)
theorem bp_ifnonnullN {off : Int} (hd : decode (bp_c M) pc = .ok (.ifnonnull off, 3)) (k : bp_W G M d (pc + 3) lv st h Φ) : bp_W G M d pc lv (.null :: st) h Φ := by
  intro p e R s m args below meth c H locs ls hC hR hS hL hu
  exact lv_ifnonnullN hC.1 hC.2.1 hd (k p e R s m args below meth c H locs ls hC hR hS hL hu)
theorem bp_ifnullq {r : Option Nat} {off : Int} {tgt : Nat} (hd : decode (bp_c M) pc = .ok (.ifnull off, 3)) (ht : (pc : Int) + off = (tgt : Int)) (kt : r = none → bp_W G M d tgt lv st h Φ) (kf : ∀ x, r = some x → bp_W G M d (pc + 3) lv st h Φ) : bp_W G M d pc lv (va_rf r :: st) h Φ := by
  cases r with
  | none => exact bp_ifnullN hd ht (kt rfl)
  | some x => exact bp_ifnull hd (kf x rfl)
theorem bp_ifnonnullq {r : Option Nat} {off : Int} {tgt : Nat} (hd : decode (bp_c M) pc = .ok (.ifnonnull off, 3)) (ht : (pc : Int) + off = (tgt : Int)) (kt : ∀ x, r = some x → bp_W G M d tgt lv st h Φ) (kf : r = none → bp_W G M d (pc + 3) lv st h Φ) : bp_W G M d pc lv (va_rf r :: st) h Φ := by
  cases r with
  | none => exact bp_ifnonnullN hd (kf rfl)
  | some x => exact bp_ifnonnull hd ht (kt x rfl)
theorem bp_tableOut {dflt lo hi : Int} {offs : Array Int} {len : Nat} {x : Int32} {tgt : Nat} (hd : decode (bp_c M) pc = .ok (.tableswitch dflt lo hi offs, len)) (hx : x.toInt < lo ∨ hi < x.toInt) (ht : (pc : Int) + dflt = (tgt : Int)) (k : bp_W G M d tgt lv st h Φ) : bp_W G M d pc lv (.int x :: st) h Φ := by
  intro p e R s m args below meth c H locs ls hC hR hS hL hu
  exact lv_tableOut hC.1 hC.2.1 hd hx ht (k p e R s m args below meth c H locs ls hC hR hS hL hu)
theorem bp_tableIn {dflt lo hi : Int} {offs : Array Int} {len : Nat} {x : Int32} {off : Int} {tgt : Nat} (hd : decode (bp_c M) pc = .ok (.tableswitch dflt lo hi offs, len)) (h1 : ¬ x.toInt < lo) (h2 : ¬ hi < x.toInt) (ho : offs[(x.toInt - lo).toNat]? = some off) (ht : (pc : Int) + off = (tgt : Int)) (k : bp_W G M d tgt lv st h Φ) : bp_W G M d pc lv (.int x :: st) h Φ := by
  intro p e R s m args below meth c H locs ls hC hR hS hL hu
  exact lv_tableIn hC.1 hC.2.1 hd h1 h2 ho ht (k p e R s m args below meth c H locs ls hC hR hS hL hu)
theorem bp_ldc {index : Nat} {v : Int32} (hd : decode (bp_c M) pc = .ok (.ldc index, 2)) (hw : Cond.constant (bp_own_ M) index v ∈ bp_UW) (k : bp_W G M d (pc + 2) lv (.int v :: st) h Φ) : bp_W G M d pc lv st h Φ := by
  intro p e R s m args below meth c H locs ls hC hR hS hL hu
  exact lv_ldc hC.1 hC.2.1 hC.2.2.2.2.1 (hC.2.2.2.2.2.1 _ hw) hd (k p e R s m args below meth c H locs ls hC hR hS hL hu)
end BPR

