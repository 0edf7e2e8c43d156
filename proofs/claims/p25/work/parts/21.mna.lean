/-! ===== four rows of four ===== -/
def bp_tk (H : Heap) (n : Nat) : Heap := (H.toList.take n).toArray
theorem bp_tk_size {H : Heap} {n : Nat} (h : n ≤ H.size) : (bp_tk H n).size = n := by
  unfold bp_tk
  simp
  omega
theorem bp_tk_get {H : Heap} {n q : Nat} (h : q < n) : (bp_tk H n)[q]? = H[q]? := by
  unfold bp_tk
  simp [List.getElem?_take, h]
theorem bp_tk_eq {H H1 : Heap} (hs : H.size ≤ H1.size) (ho : ∀ q : Nat, q < H.size → H1[q]? = H[q]?) : bp_tk H1 H.size = H := by
  apply Array.ext_getElem?
  intro q
  by_cases e : q < H.size
  · rw [bp_tk_get e, ho q e]
  · rw [Array.getElem?_eq_none (by rw [bp_tk_size hs]; omega), Array.getElem?_eq_none (by omega)]
theorem bp_tk_all {H : Heap} : bp_tk H H.size = H := bp_tk_eq (Nat.le_refl _) (fun _ _ => rfl)
/-- the heap behind it -/
def bp_gd (h : bp_H) (q : Nat) : bp_H := bp_new (bp_new (bp_new (bp_new (bp_new h q (2, 4, 4, 0) (fun k => .ref (q + 1 + (k - 4096))) 5) (q + 1) (2, 0, 4, 0) (fun _ => .int 0) 5) (q + 1 + 1) (2, 0, 4, 0) (fun _ => .int 0) 5) (q + 1 + 2) (2, 0, 4, 0) (fun _ => .int 0) 5) (q + 1 + 3) (2, 0, 4, 0) (fun _ => .int 0) 5
theorem bp_R.tk {G : bp_X} {h : bp_H} {H1 : Heap} {n : Nat} {k : bp_K} {f : Nat → Value} {cell : Cell} (hR : bp_R G h (bp_tk H1 n)) (hn : n < H1.size) (hc : H1[n]? = some cell) (hat : bp_at G k f n (bp_tk H1 (n + 1))) (h5 : 1 + cell.slots.size ≤ 5) (hm : h.2.2 + 5 ≤ bp_max) :
    bp_R G (bp_new h n k f 5) (bp_tk H1 (n + 1)) ∧ (h.1 n).1 ≠ 1 ∧ (h.1 n).1 ≠ 2 := by
  have e : (bp_tk H1 n).size = n := bp_tk_size (by omega)
  have := hR.push (H1 := bp_tk H1 (n + 1)) (k := k) (f := f) (cell := cell) (n := 5) (by rw [e, bp_tk_size (by omega)]) (by rw [e, bp_tk_get (by omega)]; exact hc) (fun q hq => by rw [e] at hq; rw [bp_tk_get (by omega), bp_tk_get hq]) (by rw [e]; exact hat) h5 hm
  rw [e] at this
  exact this
theorem bp_R.gd {G : bp_X} {h : bp_H} {H H1 : Heap} (hR : bp_R G h H) (hs : H1.size = H.size + 5) (ho : ∀ q : Nat, q < H.size → H1[q]? = H[q]?) (h0 : H1[H.size]? = some (arrV (bp_ca G 4) 4 (fun j => .ref (H.size + 1 + j)))) (hi : ∀ j : Nat, j < 4 → H1[H.size + 1 + j]? = some (arrV (bp_ca G 0) 4 (fun _ => .int 0))) (hm : h.2.2 + 25 ≤ bp_max) :
    bp_R G (bp_gd h H.size) H1 ∧ (h.1 H.size).1 ≠ 1 ∧ (h.1 H.size).1 ≠ 2 ∧ ∀ j : Nat, j < 4 → (h.1 (H.size + 1 + j)).1 ≠ 1 ∧ (h.1 (H.size + 1 + j)).1 ≠ 2 := by
  have hB : bp_B G ≤ H.size := hR.2.2.2
  have R0 : bp_R G h (bp_tk H1 H.size) := by rw [bp_tk_eq (by omega) ho]; exact hR
  have at0 : bp_at G (2, 4, 4, 0) (fun k => .ref (H.size + 1 + (k - 4096))) H.size (bp_tk H1 (H.size + 1)) := by
    refine ⟨fun z => (by cases z), fun _ => ⟨hB, (by show 4 < 5; omega), ?_⟩⟩
    rw [bp_tk_get (by omega), h0]
    refine congrArg (fun f => some (arrV (bp_ca G 4) 4 f)) (funext fun j => ?_)
    show _ = Value.ref (H.size + 1 + (4096 + j - 4096))
    rw [Nat.add_sub_cancel_left]
  have ati : ∀ j : Nat, j < 4 → bp_at G (2, 0, 4, 0) (fun _ => .int 0) (H.size + 1 + j) (bp_tk H1 (H.size + 1 + j + 1)) := fun j hj => by
    refine ⟨fun z => (by cases z), fun _ => ⟨(by omega), (by show 0 < 5; omega), ?_⟩⟩
    rw [bp_tk_get (by omega), hi j hj]
  have sz : ∀ (cA : ClassId) (f : Nat → Value), 1 + (arrV cA 4 f).slots.size ≤ 5 := fun cA f => by rw [arrV_size]; omega
  obtain ⟨R1, a1, a2⟩ := R0.tk (by omega) h0 at0 (sz _ _) (by omega)
  obtain ⟨R2, b1, b2⟩ := R1.tk (by omega) (hi 0 (by omega)) (ati 0 (by omega)) (sz _ _) (by show h.2.2 + 5 + 5 ≤ _; omega)
  obtain ⟨R3, c1, c2⟩ := R2.tk (by omega) (hi 1 (by omega)) (ati 1 (by omega)) (sz _ _) (by show h.2.2 + 5 + 5 + 5 ≤ _; omega)
  obtain ⟨R4, d1, d2⟩ := R3.tk (by omega) (hi 2 (by omega)) (ati 2 (by omega)) (sz _ _) (by show h.2.2 + 5 + 5 + 5 + 5 ≤ _; omega)
  obtain ⟨R5, e1, e2⟩ := R4.tk (by omega) (hi 3 (by omega)) (ati 3 (by omega)) (sz _ _) (by show h.2.2 + 5 + 5 + 5 + 5 + 5 ≤ _; omega)
  have eH : bp_tk H1 (H.size + 1 + 3 + 1) = H1 := by
    rw [show H.size + 1 + 3 + 1 = H1.size by omega]
    exact bp_tk_all
  rw [eH] at R5
  refine ⟨R5, a1, a2, fun j hj => ?_⟩
  have old : ∀ q : Nat, H.size < q → ∀ z, (bp_new h H.size (2, 4, 4, 0) (fun k => .ref (H.size + 1 + (k - 4096))) 5).1 q = z → h.1 q = z := fun q hq z e => by
    have : (bp_new h H.size (2, 4, 4, 0) (fun k => .ref (H.size + 1 + (k - 4096))) 5).1 q = h.1 q := if_neg (by omega)
    rw [this] at e
    exact e
  have up : ∀ (g : bp_H) (q n : Nat) (k : bp_K) (f : Nat → Value), q ≠ n → (bp_new g n k f 5).1 q = g.1 q := fun g q n k f hq => if_neg hq
  match j, hj with
  | 0, _ =>
    rw [up _ _ _ _ _ (by omega)] at b1 b2
    exact ⟨b1, b2⟩
  | 1, _ =>
    rw [up _ _ _ _ _ (by omega), up _ _ _ _ _ (by omega)] at c1 c2
    exact ⟨c1, c2⟩
  | 2, _ =>
    rw [up _ _ _ _ _ (by omega), up _ _ _ _ _ (by omega), up _ _ _ _ _ (by omega)] at d1 d2
    exact ⟨d1, d2⟩
  | 3, _ =>
    rw [up _ _ _ _ _ (by omega), up _ _ _ _ _ (by omega), up _ _ _ _ _ (by omega), up _ _ _ _ _ (by omega)] at e1 e2
    exact ⟨e1, e2⟩
theorem bp_us_gd {b : Nat} {H H1 : Heap} (hb : b ≤ H.size) (hs : H1.size = H.size + 5) (ho : ∀ q : Nat, q < H.size → H1[q]? = H[q]?) {c0 : Cell} {ci : Cell} (h0 : H1[H.size]? = some c0) (z0 : c0.slots.size = 4) (hi : ∀ j : Nat, j < 4 → H1[H.size + 1 + j]? = some ci) (zi : ci.slots.size = 4) : bp_us b H1 = bp_us b H + 25 := by
  have st : ∀ (n : Nat) (c : Cell), b ≤ n → n < H1.size → H1[n]? = some c → bp_us b (bp_tk H1 (n + 1)) = bp_us b (bp_tk H1 n) + (1 + c.slots.size) := fun n c hb hn hc => by
    have e : (bp_tk H1 n).size = n := bp_tk_size (by omega)
    exact bp_us_push (by rw [e]; exact hb) (by rw [e, bp_tk_size (by omega)]) (by rw [e, bp_tk_get (by omega)]; exact hc) (fun q hq => by rw [e] at hq; rw [bp_tk_get (by omega), bp_tk_get hq])
  have s0 := st H.size c0 hb (by omega) h0
  have s1 := st (H.size + 1 + 0) ci (by omega) (by omega) (hi 0 (by omega))
  have s2 := st (H.size + 1 + 1) ci (by omega) (by omega) (hi 1 (by omega))
  have s3 := st (H.size + 1 + 2) ci (by omega) (by omega) (hi 2 (by omega))
  have s4 := st (H.size + 1 + 3) ci (by omega) (by omega) (hi 3 (by omega))
  have eH : bp_tk H1 (H.size + 1 + 3 + 1) = H1 := by
    rw [show H.size + 1 + 3 + 1 = H1.size by omega]
    exact bp_tk_all
  rw [eH] at s4
  rw [bp_tk_eq (by omega) ho] at s0
  rw [show H.size + 1 + 0 = H.size + 1 from rfl] at s1
  rw [show H.size + 1 + 1 + 1 = H.size + 1 + 2 from rfl] at s2
  rw [show H.size + 1 + 2 + 1 = H.size + 1 + 3 from rfl] at s3
  rw [z0] at s0
  rw [zi] at s1 s2 s3 s4
  omega
section BPM
variable {G : bp_X} {M : bp_M} {d pc : Nat} {lv : List (Nat × Value)} {st : List Value} {h : bp_H} {Φ : bp_O → bp_H → Prop}
theorem bp_mna {idx : Nat} (hd : decode (bp_c M) pc = .ok (.multianewarray idx 2, 4)) (hw : Cond.classLink (bp_own_ M) idx "[[I" ∈ bp_UW) (hm : h.2.2 + 25 ≤ bp_max)
    (kk : ∀ q : Nat, (h.1 q).1 ≠ 1 → (h.1 q).1 ≠ 2 → (∀ j : Nat, j < 4 → (h.1 (q + 1 + j)).1 ≠ 1 ∧ (h.1 (q + 1 + j)).1 ≠ 2) → bp_W G M d (pc + 4) lv (.ref q :: st) (bp_gd h q) Φ) : bp_W G M d pc lv (.int (nI 4) :: .int (nI 4) :: st) h Φ := by
  intro p e R s m args below meth c H locs ls hC hR hS hL hu T hT Xs
  have hts := hC.2.2.2.2.2.1
  have hr := bp_room hC hR hu hm
  have e4 : (nI 4).toNatClampNeg = 4 := by decide
  obtain ⟨vm₁, cA, comp, -, fA, fC, hO, -, X', step⟩ := Xs.multianewarray2F hC.1 hC.2.2.2.2.1 (hts _ hw) (ty := .int) (va_AOA.use hC.2.2.2.2.2.2.2.1.2.2.2.2.2.2.2.2.2.1) (hts _ aw_0) (g := F0 m pc ls (.int (nI 4) :: .int (nI 4) :: st)) rfl (by rw [hC.2.1]; exact hd) rfl (by decide) (by decide) (by decide) (by decide) (by decide) (by decide) (by decide) (by rw [e4]; omega) (by rw [e4]; omega)
  rw [e4] at X' step
  have ea : cA = bp_ca G 4 := by
    have hK := (hC.2.2.2.2.2.2.2.1.1.2 4 _ (bp_tys_at G 4 (by omega))).2
    have hK2 : s.vm.findClass ("[" ++ (FieldType.array .int).toString) = some (bp_ca G 4) := hK
    exact Option.some.inj (fA.symm.trans hK2)
  have ec : comp = bp_ca G 0 := by
    have hK := (hC.2.2.2.2.2.2.2.1.1.2 0 _ (bp_tys_at G 0 (by omega))).2
    have hK2 : s.vm.findClass ("[" ++ (FieldType.int).toString) = some (bp_ca G 0) := hK
    exact Option.some.inj (fC.symm.trans hK2)
  subst ea; subst ec
  generalize hF : Jvm.Free.Multi.fill (T.setVm vm₁) (bp_ca G 4) (bp_ca G 0) 4 4 (defaultValue .int) 4 = F at X' step
  have hTh : (T.setVm vm₁).heap = H := hT
  obtain ⟨f1, f2, -, -⟩ := Jvm.Free.Multi.fill_facts (T.setVm vm₁) (bp_ca G 4) (bp_ca G 0) 4 4 (defaultValue .int) 4
  rw [hF, hTh] at f1 f2
  have hold : ∀ x : Nat, x < H.size → F.heap[x]? = H[x]? := fun x hx => by
    have := Jvm.Free.Multi.fill_old (T.setVm vm₁) (bp_ca G 4) (bp_ca G 0) 4 4 (defaultValue .int) (a := x) (by rw [hTh]; exact hx) 4
    rw [hF, hTh] at this
    exact this
  have hin : ∀ j : Nat, j < 4 → F.heap[H.size + 1 + j]? = some (arrV (bp_ca G 0) 4 (fun _ => .int 0)) := fun j hj => by
    have := Jvm.Free.Multi.fill_inner (T.setVm vm₁) (bp_ca G 4) (bp_ca G 0) 4 4 (defaultValue .int) 4 j hj
    rw [hF, hTh] at this
    rw [this]
    congr 1
  have hout : F.heap[H.size]? = some (arrV (bp_ca G 4) 4 (fun j => .ref (H.size + 1 + j))) := by
    rw [f2, vr_outer]
    congr 1
  have hs : F.heap.size = H.size + 5 := by rw [f1]
  obtain ⟨hR', n1, n2, n3⟩ := hR.gd hs hold hout hin hm
  have hu' := bp_us_gd (b := bp_B G) hR.2.2.2 hs hold hout (by rw [arrV_size]) hin (by rw [arrV_size])
  have kk' := kk H.size n1 n2 n3 p e R s m args below meth c F.heap locs ls hC hR' ⟨Nat.le_trans hS.1 (by omega), fun x g1 g2 => (hold x (Nat.lt_of_lt_of_le g1 hS.1)).trans (hS.2.1 x g1 g2), hS.2.2⟩ hL (by omega)
  obtain ⟨t, a1, b1⟩ := (W.widen (by omega) (by omega) kk' : W p (bp_l G) e R s m args below meth c F.heap locs _ _ _ _) F rfl X'
  refine ⟨t, step t ?_, b1⟩
  have e : T.heap.size = H.size := by rw [hT]
  rw [e]
  exact a1
end BPM

