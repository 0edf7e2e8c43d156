/-! ===== class objects, copies of arrays, lists ===== -/
theorem bp_rde {h : bp_H} {a k : Nat} {v : Value} : (bp_set h a k v).2.1 a k = v := by simp [bp_set]
theorem bp_rdn {h : bp_H} {a k b j : Nat} {v w : Value} (e : j ≠ k) (hv : h.2.1 b j = v) : (bp_set h a k w).2.1 b j = v := by simp [bp_set, e, hv]
theorem bp_rda {h : bp_H} {a k b j : Nat} {v w : Value} (e : b ≠ a) (hv : h.2.1 b j = v) : (bp_set h a k w).2.1 b j = v := by simp [bp_set, e, hv]
/-- elements copied from one array to another or the same -/
def bp_cpy (h : bp_H) (a0 a sp dp n : Nat) : bp_H := (h.1, fun b j => if b = a ∧ 4096 + dp ≤ j ∧ j < 4096 + dp + n then h.2.1 a0 (4096 + (sp + (j - (4096 + dp)))) else h.2.1 b j, h.2.2)
section BPL
variable {G : bp_X} {M : bp_M} {d pc : Nat} {lv : List (Nat × Value)} {st : List Value} {h : bp_H} {Φ : bp_O → bp_H → Prop}
def bp_gC : MethodName := ⟨"java/lang/Object", "getClass", "()Ljava/lang/Class;"⟩
theorem bp_ldcM {idx : Nat} (hd : decode (bp_c M) pc = .ok (.ldc idx, 2)) (hw : Cond.classLink (bp_own_ M) idx "[Ljava/lang/Object;" ∈ bp_UW) (k : bp_W G M d (pc + 2) lv (.ref (bp_mi G) :: st) h Φ) : bp_W G M d pc lv st h Φ := by
  intro p e R s m args below meth c H locs ls hC hR hS hL hu
  obtain ⟨h1, h2, h3, h4, h5, h6, h7, -⟩ := hC.2.2.2.2.2.2.2.1
  exact va_ldcM hC.1 hC.2.1 hC.2.2.2.2.1 (hC.2.2.2.2.2.1 _ hw) h7 hd (k p e R s m args below meth c H locs ls hC hR hS hL hu)
theorem bp_getC {idx a n o : Nat} (hd : decode (bp_c M) pc = .ok (.invokevirtual idx, 3)) (hw : Cond.methodLink (bp_own_ M) idx bp_gC ∈ bp_UW ∧ Cond.selects "[Ljava/lang/Object;" bp_gC bp_gC ∈ bp_UW ∧ Cond.instanceMethod bp_gC ∈ bp_UW ∧ Cond.native bp_gC ∈ bp_UW) (hk : h.1 a = (2, 3, n, o)) (hdd : 1 ≤ d) (hst : (st.map fun v => v.category).sum ≤ 8)
    (k : bp_W G M d (pc + 3) lv (.ref (bp_mi G) :: st) h Φ) : bp_W G M d pc lv (.ref a :: st) h Φ := by
  intro p e R s m args below meth c H locs ls hC hR hS hL hu
  obtain ⟨h1, h2, h3, h4, h5, h6, h7, h8, -⟩ := hC.2.2.2.2.2.2.2.1
  obtain ⟨hB, hcell, harr, hRA, -⟩ := bp_arr hC hR hk
  obtain ⟨r1, r2, -⟩ := hC.2.2.2.2.2.2.2.2.2.2.2
  have hts := hC.2.2.2.2.2.1
  exact va_getC hC.1 hC.2.1 (by rw [hC.2.2.1]; exact hL.1.symm) hC.2.2.2.2.1 (hts _ hw.1) (va_Dc.use h8) (hts _ hw.2.1) (hts _ hw.2.2.1) (hts _ hw.2.2.2) h7 ⟨_, hcell, rfl, va_nmO hRA (by decide +kernel)⟩ (by omega) (by omega) hd (k p e R s m args below meth c H locs ls hC hR hS hL hu)
theorem bp_copyO {idx a0 a n0 n1 o0 o1 sp dp n : Nat} {isp idp i_n : Int32} (hd : decode (bp_c M) pc = .ok (.invokestatic idx, 3)) (hw : Cond.methodLink (bp_own_ M) idx arraycopyName ∈ bp_UW ∧ Cond.native arraycopyName ∈ bp_UW ∧ Cond.static arraycopyName ∈ bp_UW ∧ Cond.initialized "java/lang/System" ∈ bp_UW)
    (hk0 : h.1 a0 = (2, 3, n0, o0)) (hk1 : h.1 a = (2, 3, n1, o1)) (e1 : isp = nI sp) (e2 : idp = nI dp) (e3 : i_n = nI n) (hs : sp + n ≤ n0) (ht : dp + n ≤ n1) (hn0 : n0 < 2 ^ 30) (hn1 : n1 < 2 ^ 30)
    (hel : ∀ i : Nat, i < n → h.2.1 a0 (4096 + (sp + i)) = .null ∨ ∃ y ci : Nat, h.2.1 a0 (4096 + (sp + i)) = .ref y ∧ bp_any ci ∧ (h.1 y).1 = 1 ∧ (h.1 y).2.1 = ci) (hdd : 1 ≤ d) (hst : (st.map fun v => v.category).sum ≤ 8)
    (k : bp_W G M d (pc + 3) lv st (bp_cpy h a0 a sp dp n) Φ) : bp_W G M d pc lv (.int i_n :: .int idp :: .ref a :: .int isp :: .ref a0 :: st) h Φ := by
  intro p e R s m args below meth c H locs ls hC hR hS hL hu
  subst e1; subst e2; subst e3
  obtain ⟨hB0, hc0, harr0, hRA0, -⟩ := bp_arr hC hR hk0
  obtain ⟨hB1, hc1, harr1, hRA1, -⟩ := bp_arr hC hR hk1
  obtain ⟨r1, r2, -⟩ := hC.2.2.2.2.2.2.2.2.2.2.2
  have hts := hC.2.2.2.2.2.1
  intro T hT X
  obtain ⟨-, k0, hk0', cm0, hkk0⟩ := harr0
  obtain ⟨-, k1, hk1', cm1, hkk1⟩ := harr1
  have cl1 : (nI sp).toNatClampNeg = sp := nI_clamp (by omega)
  have cl2 : (nI dp).toNatClampNeg = dp := nI_clamp (by omega)
  have cl3 : (nI n).toNatClampNeg = n := nI_clamp (by omega)
  have ti1 : (nI sp).toInt = (sp : Int) := nI_toInt (by omega)
  have ti2 : (nI dp).toInt = (dp : Int) := nI_toInt (by omega)
  have ti3 : (nI n).toInt = (n : Int) := nI_toInt (by omega)
  obtain ⟨vm', X', step⟩ := X.arraycopy hC.1 hC.2.2.2.2.1 (hts _ hw.1) (hts _ hw.2.1) (hts _ hw.2.2.1) (hts _ hw.2.2.2) (src := a0) (dst := a) (cs := arrV (bp_ca G 3) n0 (fun j => h.2.1 a0 (4096 + j))) (cd := arrV (bp_ca G 3) n1 (fun j => h.2.1 a (4096 + j))) (srcPos := nI sp) (destPos := nI dp) (n := nI n) (by rw [hT]; exact hc0) (by rw [hT]; exact hc1)
    (fun _ h => by cases h) (fun _ h => by cases h) (fun h => by cases h) (fun h => by cases h) hk0' hk1' hkk0 hkk1 rfl (nI_pos (by omega)) (nI_pos (by omega)) (nI_pos (by omega))
    (by rw [ti1, ti3, arrV_size]; omega)
    (by rw [ti2, ti3, arrV_size]; omega)
    (fun vm₁ hal i hi => by
      rw [cl3] at hi
      rw [cl1]
      have e9 : (arrV (bp_ca G 3) n0 (fun j => h.2.1 a0 (4096 + j))).slots.getD (sp + i) .null = h.2.1 a0 (4096 + (sp + i)) := by
        rw [Array.getD_eq_getD_getElem?, arrV_read _ _ (by omega)]
        rfl
      rw [e9]
      rcases hel i hi with hy | ⟨y, ci, hy, hany, hky⟩
      · rw [hy]; exact ⟨rfl, trivial⟩
      · rw [hy]
        obtain ⟨cellV, g1, g2, ⟨kC, hkC⟩, hasg⟩ := bp_anyOf hC hR hany hky
        obtain ⟨kA, comp, q1, q2, q3, -⟩ := hRA1
        cases hk1'.symm.trans q1
        cases hkk1.symm.trans q2
        obtain ⟨kE, hkE, -⟩ := Vm.findClass_spec q3
        obtain ⟨kC', hkC', -⟩ := hal.2.2 _ _ hkC
        obtain ⟨kE', hkE', -⟩ := hal.2.2 _ _ hkE
        refine ⟨rfl, cellV, (show T.heap[y]? = some cellV by rw [hT]; exact g1), (fun q h => by rw [h] at g2; cases g2), ⟨kC', hkC'⟩, ?_, ?_⟩
        · exact ⟨kE', hkE'⟩
        · show vm₁.assignable _ _ = true
          rw [hal.assignable]
          exact hasg _ q3)
    (g := F0 m pc ls (.int (nI n) :: .int (nI dp) :: .ref a :: .int (nI sp) :: .ref a0 :: st)) rfl (by rw [hC.2.2.1]; exact hL.1) (rest := st) rfl (by rw [hC.2.1]; exact hd) (by omega) (by
      have hw9 : nativeFrameWords "java/lang/System" "arraycopy" 5 ≤ 20 := by decide
      show 2 * 0 + _ + _ ≤ _
      omega)
  have e1 : copied (arrV (bp_ca G 3) n0 (fun j => h.2.1 a0 (4096 + j))) (arrV (bp_ca G 3) n1 (fun j => h.2.1 a (4096 + j))) (nI sp) (nI dp) (nI n) = arrV (bp_ca G 3) n1 (fun j => (bp_cpy h a0 a sp dp n).2.1 a (4096 + j)) := by
    have e9 := va_copied (fun z : Value => z) (bp_ca G 3) (bp_ca G 3) (n0 := n0) (n1 := n1) (sp := (nI sp).toNatClampNeg) (dp := (nI dp).toNatClampNeg) (n := (nI n).toNatClampNeg) (fun j => h.2.1 a0 (4096 + j)) (fun j => h.2.1 a (4096 + j)) (by rw [cl1, cl3]; exact hs)
    refine (show copied _ _ _ _ _ = _ from e9).trans ?_
    congr 1
    funext q
    rw [cl1, cl2, cl3]
    unfold va_cpy bp_cpy
    by_cases c9 : dp ≤ q ∧ q < dp + n
    · have c8 : 4096 + dp ≤ 4096 + q ∧ 4096 + q < 4096 + dp + n := by omega
      have e8 : 4096 + q - (4096 + dp) = q - dp := by omega
      simp [c9, c8, e8]
    · have c8 : ¬ (4096 + dp ≤ 4096 + q ∧ 4096 + q < 4096 + dp + n) := by omega
      simp only [c9, if_false, true_and]
      rw [if_neg c8]
  rw [e1] at X' step
  have hl : a < H.size := (Array.getElem?_eq_some_iff.mp hc1).1
  generalize hnew : arrV (bp_ca G 3) n1 (fun j => (bp_cpy h a0 a sp dp n).2.1 a (4096 + j)) = cN at X' step
  have hheap : ((T.setVm vm').setCell a cN).heap = H.setIfInBounds a cN := by rw [← hT]; rfl
  have oq : ∀ q : Nat, q ≠ a → (H.setIfInBounds a cN)[q]? = H[q]? := fun q hq => by simp [Array.getElem?_setIfInBounds, Ne.symm hq]
  have oa : (H.setIfInBounds a cN)[a]? = some cN := by simp [Array.getElem?_setIfInBounds, hl]
  have hz : ∀ (q : Nat) (c c' : Cell), H[q]? = some c → (H.setIfInBounds a cN)[q]? = some c' → c'.slots.size = c.slots.size := by
    intro q c0 c1 g1 g2
    by_cases e : q = a
    · subst e
      rw [hc1] at g1
      rw [oa] at g2
      cases g1; cases g2
      rw [← hnew, arrV_size, arrV_size]
    · rw [oq q e, g1] at g2; cases g2; rfl
  have hu' : bp_us (bp_B G) (H.setIfInBounds a cN) = bp_us (bp_B G) H := bp_us_ext (by simp) hz
  have hR' : bp_R G (bp_cpy h a0 a sp dp n) (H.setIfInBounds a cN) := by
    obtain ⟨w1, w2, w3, w4⟩ := hR
    refine ⟨fun b => ?_, by rw [hu']; exact w2, w3, by simpa using w4⟩
    by_cases e : b = a
    · subst e
      refine ⟨fun z => (by rw [show ((bp_cpy h a0 b sp dp n).1 b) = h.1 b from rfl, hk1] at z; cases z), fun _ => ⟨hB1, ?_, ?_⟩⟩
      · rw [show ((bp_cpy h a0 b sp dp n).1 b) = h.1 b from rfl, hk1]; show 3 < 5; omega
      · rw [show ((bp_cpy h a0 b sp dp n).1 b) = h.1 b from rfl, hk1, oa, ← hnew]
    · have e8 : (bp_cpy h a0 a sp dp n).2.1 b = h.2.1 b := by funext j; simp [bp_cpy, e]
      rw [e8]
      exact (w1 b).kept (oq b e)
  have kk : ∀ L9 : List Loc, (∀ z ∈ L9, z.base = a) → W p (bp_l G) e R s m args below meth c (H.setIfInBounds a cN) (locs ++ L9) (bp_us (bp_B G) H - bp_us (bp_B G) s.heap) (bp_us (bp_B G) H - bp_us (bp_B G) s.heap)
      (vx_MQ below (bp_Qc G Φ) (bp_XC G Φ) args s (bp_max - bp_us (bp_B G) s.heap) (bp_max - bp_us (bp_B G) s.heap) (bp_A G)) (F0 m (pc + 3) ls st) := by
    intro L9 hL9
    have kk := k p e R s m args below meth c (H.setIfInBounds a cN) (locs ++ L9) ls hC hR' ⟨by simpa using hS.1, fun q g1 g2 => by
      rw [oq q (fun e => g2 (by rw [e]; exact hB1))]
      exact hS.2.1 q g1 g2, fun q hq => by
      rcases List.mem_append.mp hq with h | h
      · exact hS.2.2 q h
      · show bp_B G ≤ q.base
        rw [hL9 q h]
        exact hB1⟩ hL (by rw [hu']; exact hu)
    rw [hu'] at kk
    exact kk
  obtain ⟨t, a1, b1⟩ := kk _ (fun z hz9 => by
    obtain ⟨y, -, hy⟩ := List.mem_map.mp hz9
    rw [← hy]) _ hheap X'
  exact ⟨t, step t a1, b1⟩
end BPL

