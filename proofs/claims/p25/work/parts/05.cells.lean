/-! ===== the rules that read and write cells ===== -/
/-- entry idx of class own names field k of class ci, of type ty, final or not -/
def bp_FL (own : String) (idx ci k : Nat) (ty : FieldType) (fin : Option Bool) : Prop :=
  ∃ (C : String) (T : u_T) (N : Nat) (ref : String) (ty0 : Nat → FieldType), bp_cl[ci]? = some (C, T, N) ∧ k < N ∧ (∀ w ∈ u_ws C T N, w ∈ bp_UW) ∧ (∀ k, k < N → parseFieldDescriptor (T k).2.2.1 = some (ty0 k)) ∧
    (∀ a, a < N → ∀ b, b < N → a ≠ b → (T a).2.1 ≠ (T b).2.1) ∧ Cond.fieldLink own idx ref (T k).2.1 (T k).2.2.1 ∈ bp_UW ∧ (ref = (T k).1 ∨ Cond.sameField ref (T k).1 (T k).2.1 (T k).2.2.1 ∈ bp_UW) ∧ ty0 k = ty ∧ (fin = some false → (T k).2.2.2 = false) ∧ (fin = some true → (T k).2.2.2 = true ∧ (T k).1 = own)
theorem bp_us_le {b : Nat} {x y z : Nat} (h1 : b ≤ x) (h2 : y ≤ x + z) : y - b ≤ (x - b) + z := by omega
section BPC
variable {G : bp_X} {M : bp_M} {d pc : Nat} {lv : List (Nat × Value)} {st : List Value} {h : bp_H} {Φ : bp_O → bp_H → Prop}
theorem bp_getf {idx ci k a : Nat} {ty : FieldType} {fin : Option Bool} (hd : decode (bp_c M) pc = .ok (.getfield idx, 3)) (fl : bp_FL (bp_own_ M) idx ci k ty fin) (hk : (h.1 a).1 = 1 ∧ (h.1 a).2.1 = ci) {v : Value} (hv : h.2.1 a (32 * ci + k) = v)
    (kk : bp_W G M d (pc + 3) lv (v :: st) h Φ) : bp_W G M d pc lv (.ref a :: st) h Φ := by
  intro p e R s m args below meth c H locs ls hC hR hS hL hu
  obtain ⟨C, T, N, ref, ty0, hc, hkN, hin, -, -, hlink, hsame, -⟩ := fl
  obtain ⟨-, r, h1, h2⟩ := (hR.1 a).1 hk.1
  have hts := hC.2.2.2.2.2.1
  rw [hk.2] at h1 h2
  have hr : r = (C, T, N) := Option.some.inj (h1.symm.trans hc)
  subst hr
  obtain ⟨cell, q1, q2, q3, q4⟩ := h2
  obtain ⟨hSl, hfc, kC, hkC, hkind⟩ := hC.2.2.2.2.2.2.2.1.1.1 ci _ hc
  obtain ⟨cf, kf, fi, f, hi, hsl⟩ := hSl k hkN
  have hi2 : s.fieldFound? ref (T k).2.1 (T k).2.2.1 = some (cf, kf, fi, f) := by
    rcases hsame with e | e
    · rw [e]; exact hi
    · exact u_same (hts _ e) _ hi
  refine W.getf hC.1 hC.2.1 hC.2.2.2.2.1 (hts _ hlink) hi2 (u_facts hfc hkC (u_lays hts hin hkN) hi).1 q1 (by rw [q3]; exact fun h => by cases h) (v := v) ?_ rfl rfl hd (kk p e R s m args below meth c H locs ls hC hR hS hL hu)
  rw [hsl, q4 k hkN, ← hv]
theorem bp_putf {idx ci k a : Nat} {ty : FieldType} {fin : Option Bool} {v : Value} (hd : decode (bp_c M) pc = .ok (.putfield idx, 3)) (fl : bp_FL (bp_own_ M) idx ci k ty fin) (hfin : fin = some false ∨ (fin = some true ∧ (bp_y M).name = "<init>")) (hk : (h.1 a).1 = 1 ∧ (h.1 a).2.1 = ci) (hn : narrow ty v = v) (hf : fits ty v = true)
    (kk : bp_W G M d (pc + 3) lv st (bp_set h a (32 * ci + k) v) Φ) : bp_W G M d pc lv (v :: .ref a :: st) h Φ := by
  intro p e R s m args below meth c H locs ls hC hR hS hL hu
  obtain ⟨C, T, N, ref, ty0, hc, hkN, hin, hty, hnm, hlink, hsame, hty0, hfi, hdecl⟩ := fl
  obtain ⟨hB, r, h1, h2⟩ := (hR.1 a).1 hk.1
  have hts := hC.2.2.2.2.2.1
  have hown := hC.2.2.2.2.1
  rw [hk.2] at h1 h2
  have hr : r = (C, T, N) := Option.some.inj (h1.symm.trans hc)
  subst hr
  have hK := hC.2.2.2.2.2.2.2.1.1
  have hap := va_apart (own := bp_own_ M) hts hin ty0 hty hnm hK hc
  obtain ⟨cell, q1, q2, q3, q4⟩ := h2
  obtain ⟨hSl, hfc, kC, hkC, hkind⟩ := hK.1 ci _ hc
  obtain ⟨cf, kf, fi, f, hi, hsl⟩ := hSl k hkN
  have hi2 : s.fieldFound? ref (T k).2.1 (T k).2.2.1 = some (cf, kf, fi, f) := by
    rcases hsame with e | e
    · rw [e]; exact hi
    · exact u_same (hts _ e) _ hi
  have hst := (u_facts hfc hkC (u_lays hts hin hkN) hi).1
  have hlay := hts _ (hin _ (u_in_lay hkN))
  have hd9 : parseFieldDescriptor (T k).2.2.1 = some ty := by rw [← hty0]; exact hty k hkN
  have goal : ∀ H' : Heap, H'[a]? = some (cell.setSlot f.slot v) → H'.size = H.size → (∀ q, q ≠ a → H'[q]? = H[q]?) → W p (bp_l G) e R s m args below meth c H' (locs ++ [⟨a, f.slot⟩]) (bp_us (bp_B G) H - bp_us (bp_B G) s.heap) (bp_us (bp_B G) H - bp_us (bp_B G) s.heap)
      (vx_MQ below (bp_Qc G Φ) (bp_XC G Φ) args s (bp_max - bp_us (bp_B G) s.heap) (bp_max - bp_us (bp_B G) s.heap) (bp_A G)) (F0 m (pc + 3) ls st) := by
    intro H' e1 e2 e3
    have hz : ∀ c c' : Cell, H[a]? = some c → H'[a]? = some c' → c'.slots.size = c.slots.size := by
      intro c0 c1 g1 g2
      rw [q1] at g1
      rw [e1] at g2
      cases g1; cases g2
      simp [Cell.setSlot]
    have hR' : bp_R G (bp_set h a (32 * ci + k) v) H' := by
      refine bp_R.put hR e2 hz e3 ⟨fun _ => ⟨hB, (C, T, N), by rw [hk.2]; exact hc, ?_⟩, fun z => by rw [hk.1] at z; cases z⟩
      rw [hk.2]
      rw [hsl] at e1
      refine t_OB.to (V := updV (fun j => h.2.1 a (32 * ci + j)) k v) ⟨_, e1, q2, q3, t_set q4 hap hkN v⟩ (fun j _ => ?_)
      unfold updV
      by_cases e : j = k
      · subst e; simp
      · have : ¬ 32 * ci + j = 32 * ci + k := by omega
        simp [e]
    have hu' : bp_us (bp_B G) H' = bp_us (bp_B G) H := bp_us_ext e2 (fun q c0 c1 g1 g2 => by
      by_cases e : q = a
      · subst e; exact hz c0 c1 g1 g2
      · rw [e3 q e, g1] at g2; cases g2; rfl)
    have kk' := kk p e R s m args below meth c H' (locs ++ [⟨a, f.slot⟩]) ls hC hR' (hS.put e2 e3 hB) hL (by rw [hu']; exact hu)
    rw [hu'] at kk'
    exact kk'
  rcases hfin with z | ⟨z, hini⟩
  · unfold u_lay at hlay
    rw [if_neg (by rw [hfi z]; decide)] at hlay
    have h6 := u_store hfc hkC hkind hlay hi hd9 hn hf
    exact W.putK hC.1 hC.2.1 (f := f) ⟨hown, hts _ hlink, ⟨_, _, _, hi2⟩, hst⟩ (by rw [q2]; exact h6) q1 q3 (by rw [hsl]; exact k2_hasslot (q4 k hkN)) rfl rfl hd goal
  · unfold u_lay at hlay
    rw [if_pos (hdecl z).1] at hlay
    have hin2 : meth.name = "<init>" := hC.2.2.2.2.2.2.2.2.2.2.1 hini
    have hcf : m.cls = cf := by
      obtain ⟨_, _, c', _, _, _, -, -, hf', -, -, -, hown2, -⟩ := Cond.laysFinal_spec hlay
      have e1 : c' = cf := by have := hi.symm.trans hf'; simp at this; exact this.1.symm
      rw [(hdecl z).2] at hown2
      rw [← e1]; exact Option.some.inj (hown.symm.trans hown2)
    have h6 := u_fits hfc hkC hkind (Or.inr hlay) hi hd9 hn hf
    exact W.putFinK hC.1 hC.2.1 hown (hts _ hlink) hi2 hst hcf hin2 (by rw [q2]; exact h6) q1 q3 (by rw [hsl]; exact k2_hasslot (q4 k hkN)) rfl rfl hd goal
/-- what an array is, of the machine -/
theorem bp_arr {p : Program} {R : Room} {s : State} {m : MethodId} {args : Array Value} {meth : Method} {c : Code} {H : Heap} {a ti n o : Nat} (hC : bp_C G M d p R s m args meth c) (hR : bp_R G h H) (hk : h.1 a = (2, ti, n, o)) :
    bp_B G ≤ a ∧ H[a]? = some (arrV (bp_ca G ti) n (fun j => h.2.1 a (4096 + j))) ∧ s.isArrayOf (arrV (bp_ca G ti) n (fun j => h.2.1 a (4096 + j))) (bp_ty ti) ∧ va_RA s (bp_ca G ti) (bp_ty ti) ∧ ti < 5 := by
  obtain ⟨h1, h2, h3⟩ := (hR.1 a).2 (by rw [hk])
  rw [hk] at h2 h3
  have hK := hC.2.2.2.2.2.2.2.1.1.2 ti _ (bp_tys_at G ti h2)
  exact ⟨h1, h3, hK.1 n _, hK.2, h2⟩
theorem bp_ix {j n : Nat} (hj : j < n) (hn : n < 2 ^ 31) {cA : ClassId} {f : Nat → Value} : ¬ (nI j < 0 ∨ (arrV cA n f).slots.size ≤ (nI j).toNatClampNeg) := by
  rw [arrV_size]
  exact vp_in_nI hj hn
/-! array rules, laid by program -/
theorem bp_iald {a n o j : Nat} {i : Int32} {v : Value} (hd : decode (bp_c M) pc = .ok (.iaload, 1)) (hk : h.1 a = (2, 0, n, o)) (hi : i = nI j) (hj : j < n) (hn : n < 2 ^ 31) (hv : h.2.1 a (4096 + j) = v) (kk : bp_W G M d (pc + 1) lv (v :: st) h Φ) : bp_W G M d pc lv (.int i :: .ref a :: st) h Φ := by
  intro p e R s m args below meth c H locs ls hC hR hS hL hu
  subst hi
  obtain ⟨-, hcell, harr, -⟩ := bp_arr hC hR hk
  exact W.iald (v := v) hC.1 hC.2.1 hcell harr (fun q => by cases q) (bp_ix hj hn) (by rw [nI_clamp (by omega), arrV_read _ _ hj, hv]) rfl rfl hd (kk p e R s m args below meth c H locs ls hC hR hS hL hu)
theorem bp_aald3 {a n o j : Nat} {i : Int32} {v : Value} (hd : decode (bp_c M) pc = .ok (.aaload, 1)) (hk : h.1 a = (2, 3, n, o)) (hi : i = nI j) (hj : j < n) (hn : n < 2 ^ 31) (hv : h.2.1 a (4096 + j) = v) (kk : bp_W G M d (pc + 1) lv (v :: st) h Φ) : bp_W G M d pc lv (.int i :: .ref a :: st) h Φ := by
  intro p e R s m args below meth c H locs ls hC hR hS hL hu
  subst hi
  obtain ⟨-, hcell, harr, -⟩ := bp_arr hC hR hk
  exact W.aald (v := v) (ty := bp_ty 3) hC.1 hC.2.1 hcell harr rfl (fun q => by cases q) (bp_ix hj hn) (by rw [nI_clamp (by omega), arrV_read _ _ hj, hv]) rfl rfl hd (kk p e R s m args below meth c H locs ls hC hR hS hL hu)
theorem bp_aald4 {a n o j : Nat} {i : Int32} {v : Value} (hd : decode (bp_c M) pc = .ok (.aaload, 1)) (hk : h.1 a = (2, 4, n, o)) (hi : i = nI j) (hj : j < n) (hn : n < 2 ^ 31) (hv : h.2.1 a (4096 + j) = v) (kk : bp_W G M d (pc + 1) lv (v :: st) h Φ) : bp_W G M d pc lv (.int i :: .ref a :: st) h Φ := by
  intro p e R s m args below meth c H locs ls hC hR hS hL hu
  subst hi
  obtain ⟨-, hcell, harr, -⟩ := bp_arr hC hR hk
  exact W.aald (v := v) (ty := bp_ty 4) hC.1 hC.2.1 hcell harr rfl (fun q => by cases q) (bp_ix hj hn) (by rw [nI_clamp (by omega), arrV_read _ _ hj, hv]) rfl rfl hd (kk p e R s m args below meth c H locs ls hC hR hS hL hu)
theorem bp_alen {a ti n o : Nat} (hd : decode (bp_c M) pc = .ok (.arraylength, 1)) (hk : h.1 a = (2, ti, n, o)) (kk : bp_W G M d (pc + 1) lv (.int (nI n) :: st) h Φ) : bp_W G M d pc lv (.ref a :: st) h Φ := by
  intro p e R s m args below meth c H locs ls hC hR hS hL hu
  obtain ⟨-, hcell, harr, -⟩ := bp_arr hC hR hk
  exact W.alen hC.1 hC.2.1 hcell harr (by rw [arrV_size]; rfl) rfl rfl hd (kk p e R s m args below meth c H locs ls hC hR hS hL hu)
theorem bp_slen (hd : decode (bp_c M) pc = .ok (.arraylength, 1)) (kk : bp_W G M d (pc + 1) lv (.int (nI (bp_sL G)) :: st) h Φ) : bp_W G M d pc lv (.ref (bp_sb G) :: st) h Φ := by
  intro p e R s m args below meth c H locs ls hC hR hS hL hu
  obtain ⟨h1, h2, h3, h4, h5, h6, h7, h8, h9, h10, h11, h12, h13⟩ := hC.2.2.2.2.2.2.2.1
  exact va_slen hC.1 hC.2.1 h11 (Nat.lt_of_lt_of_le h12 hC.2.2.2.2.2.2.2.2.1.1) (Nat.not_le.mpr h12) hS hd (kk p e R s m args below meth c H locs ls hC hR hS hL hu)
theorem bp_sld {j : Nat} {i : Int32} (hd : decode (bp_c M) pc = .ok (.iaload, 1)) (hi : i = nI j) (hj : j < bp_sL G) (hn : bp_sL G < 2 ^ 31) (kk : bp_W G M d (pc + 1) lv (.int (bp_xs G j) :: st) h Φ) : bp_W G M d pc lv (.int i :: .ref (bp_sb G) :: st) h Φ := by
  intro p e R s m args below meth c H locs ls hC hR hS hL hu
  obtain ⟨h1, h2, h3, h4, h5, h6, h7, h8, h9, h10, h11, h12, h13⟩ := hC.2.2.2.2.2.2.2.1
  subst hi
  refine va_sld hC.1 hC.2.1 h11 (Nat.lt_of_lt_of_le h12 hC.2.2.2.2.2.2.2.2.1.1) (Nat.not_le.mpr h12) hS (vp_in_nI hj hn) hd ?_
  rw [nI_clamp (by omega)]
  exact kk p e R s m args below meth c H locs ls hC hR hS hL hu
/-- the empty array of the lists has length 0 -/
theorem bp_elen (hd : decode (bp_c M) pc = .ok (.arraylength, 1)) (kk : bp_W G M d (pc + 1) lv (.int (nI 0) :: st) h Φ) : bp_W G M d pc lv (.ref (bp_e0 G) :: st) h Φ := by
  intro p e R s m args below meth c H locs ls hC hR hS hL hu
  obtain ⟨h1, h2, h3, -⟩ := hC.2.2.2.2.2.2.2.1
  exact va_tlen hC.1 hC.2.1 h3 hS rfl hd (kk p e R s m args below meth c H locs ls hC hR hS hL hu)
theorem bp_getE {idx : Nat} (hd : decode (bp_c M) pc = .ok (.getstatic idx, 3)) (hw : Cond.fieldLink (bp_own_ M) idx "java/util/ArrayList" "DEFAULTCAPACITY_EMPTY_ELEMENTDATA" "[Ljava/lang/Object;" ∈ bp_UW) (kk : bp_W G M d (pc + 3) lv (.ref (bp_e0 G) :: st) h Φ) : bp_W G M d pc lv st h Φ := by
  intro p e R s m args below meth c H locs ls hC hR hS hL hu
  obtain ⟨h1, h2, -⟩ := hC.2.2.2.2.2.2.2.1
  exact va_gets hC.1 hC.2.1 h2 hS hC.2.2.2.2.1 (hC.2.2.2.2.2.1 _ hw) (fun _ z => z) hd (kk p e R s m args below meth c H locs ls hC hR hS hL hu)
/-- behind a store in an array -/
theorem bp_stored {p : Program} {e : Env} {R : Room} {s : State} {m : MethodId} {args : Array Value} {below : List Frame} {meth : Method} {c : Code} {H H1 : Heap} {locs : List Loc} {ls : Array Slot} {a ti n o j : Nat} {v : Value} {pc' : Nat}
    (hC : bp_C G M d p R s m args meth c) (hR : bp_R G h H) (hS : va_S (bp_A G) s.heap H locs) (hL : lv_has ls (bp_n M) lv) (hu : bp_us (bp_B G) s.heap ≤ bp_us (bp_B G) H) (hk : h.1 a = (2, ti, n, o)) (hj : j < n) (hn : n < 2 ^ 31)
    (e1 : H1[a]? = some ((arrV (bp_ca G ti) n (fun j => h.2.1 a (4096 + j))).setSlot (nI j).toNatClampNeg v)) (e2 : H1.size = H.size) (e3 : ∀ q, q ≠ a → H1[q]? = H[q]?) (kk : bp_W G M d pc' lv st (bp_set h a (4096 + j) v) Φ) :
    W p (bp_l G) e R s m args below meth c H1 (locs ++ [⟨a, (nI j).toNatClampNeg⟩]) (bp_us (bp_B G) H - bp_us (bp_B G) s.heap) (bp_us (bp_B G) H - bp_us (bp_B G) s.heap)
      (vx_MQ below (bp_Qc G Φ) (bp_XC G Φ) args s (bp_max - bp_us (bp_B G) s.heap) (bp_max - bp_us (bp_B G) s.heap) (bp_A G)) (F0 m pc' ls st) := by
  obtain ⟨hB, hcell, harr, -, h5⟩ := bp_arr hC hR hk
  rw [nI_clamp (by omega : j < 2 ^ 31)] at e1
  rw [arrV_store] at e1
  have hz : ∀ c c' : Cell, H[a]? = some c → H1[a]? = some c' → c'.slots.size = c.slots.size := by
    intro c0 c1 g1 g2
    rw [hcell] at g1
    rw [e1] at g2
    cases g1; cases g2
    rw [arrV_size, arrV_size]
  have hR' : bp_R G (bp_set h a (4096 + j) v) H1 := by
    refine bp_R.put hR e2 hz e3 ⟨fun z => (by rw [hk] at z; cases z), fun _ => ⟨hB, by rw [hk]; exact h5, ?_⟩⟩
    rw [hk, e1]
    congr 2
    funext q
    unfold updV
    by_cases e : q = j
    · subst e; simp
    · have : ¬ 4096 + q = 4096 + j := by omega
      simp [e]
  have hu' : bp_us (bp_B G) H1 = bp_us (bp_B G) H := bp_us_ext e2 (fun q c0 c1 g1 g2 => by
    by_cases e : q = a
    · subst e; exact hz c0 c1 g1 g2
    · rw [e3 q e, g1] at g2; cases g2; rfl)
  have kk' := kk p e R s m args below meth c H1 (locs ++ [⟨a, (nI j).toNatClampNeg⟩]) ls hC hR' (hS.put e2 e3 hB) hL (by rw [hu']; exact hu)
  rw [hu'] at kk'
  exact kk'

theorem bp_iast {a n o j : Nat} {i : Int32} {x : Int32} (hd : decode (bp_c M) pc = .ok (.iastore, 1)) (hk : h.1 a = (2, 0, n, o)) (hi : i = nI j) (hj : j < n) (hn : n < 2 ^ 31) (kk : bp_W G M d (pc + 1) lv st (bp_set h a (4096 + j) (.int x)) Φ) : bp_W G M d pc lv (.int x :: .int i :: .ref a :: st) h Φ := by
  intro p e R s m args below meth c H locs ls hC hR hS hL hu
  subst hi
  obtain ⟨hB, hcell, harr, -⟩ := bp_arr hC hR hk
  exact W.iast hC.1 hC.2.1 hcell harr (fun q => by cases q) (bp_ix hj hn) rfl rfl hd fun H1 e1 e2 e3 => bp_stored hC hR hS hL hu hk hj hn e1 e2 e3 kk
theorem bp_aastN {a n o j : Nat} {i : Int32} (hd : decode (bp_c M) pc = .ok (.aastore, 1)) (hk : h.1 a = (2, 3, n, o)) (hi : i = nI j) (hj : j < n) (hn : n < 2 ^ 31) (kk : bp_W G M d (pc + 1) lv st (bp_set h a (4096 + j) .null) Φ) : bp_W G M d pc lv (.null :: .int i :: .ref a :: st) h Φ := by
  intro p e R s m args below meth c H locs ls hC hR hS hL hu
  subst hi
  obtain ⟨hB, hcell, harr, -⟩ := bp_arr hC hR hk
  exact va_WaastN (C := "java/lang/Object") hC.1 hC.2.1 hcell harr (fun q => by cases q) (bp_ix hj hn) rfl rfl hd fun H1 e1 e2 e3 => bp_stored hC hR hS hL hu hk hj hn e1 e2 e3 kk
/-- an object of class ci may stand in an array of objects -/
def bp_any (ci : Nat) : Prop := ∃ (C : String) (T : u_T) (N : Nat), bp_cl[ci]? = some (C, T, N) ∧ Cond.castable C "java/lang/Object" ∈ bp_UW
theorem bp_anyOf {p : Program} {R : Room} {s : State} {m : MethodId} {args : Array Value} {meth : Method} {c : Code} {H : Heap} {v ci : Nat} (hC : bp_C G M d p R s m args meth c) (hR : bp_R G h H) (ha : bp_any ci) (hv : (h.1 v).1 = 1 ∧ (h.1 v).2.1 = ci) : va_Any "java/lang/Object" s H v := by
  obtain ⟨C, T, N, hc, hw⟩ := ha
  obtain ⟨-, r, h1, cell, q1, q2, q3, q4⟩ := (hR.1 v).1 hv.1
  rw [hv.2] at h1 q2
  obtain ⟨-, hfc, kC, hkC, hkind⟩ := hC.2.2.2.2.2.2.2.1.1.1 ci _ hc
  refine ⟨cell, q1, by rw [q3]; rfl, ⟨kC, by rw [q2]; exact hkC⟩, fun comp hcomp => ?_⟩
  obtain ⟨c0, t0, f1, f2, f3⟩ := Cond.castable_spec (hC.2.2.2.2.2.1 _ hw)
  cases hcomp.symm.trans f2
  cases hfc.symm.trans f1
  rw [q2]
  exact f3
theorem bp_aast {a n o j v ci : Nat} {i : Int32} (hd : decode (bp_c M) pc = .ok (.aastore, 1)) (hk : h.1 a = (2, 3, n, o)) (hi : i = nI j) (hj : j < n) (hn : n < 2 ^ 31) (ha : bp_any ci) (hv : (h.1 v).1 = 1 ∧ (h.1 v).2.1 = ci) (kk : bp_W G M d (pc + 1) lv st (bp_set h a (4096 + j) (.ref v)) Φ) : bp_W G M d pc lv (.ref v :: .int i :: .ref a :: st) h Φ := by
  intro p e R s m args below meth c H locs ls hC hR hS hL hu
  subst hi
  obtain ⟨hB, hcell, harr, hRA, -⟩ := bp_arr hC hR hk
  obtain ⟨cellV, g1, g3, ⟨kC, hkC⟩, hasg⟩ := bp_anyOf hC hR ha hv
  obtain ⟨kA, comp, k1, k2, k3, -⟩ := hRA
  obtain ⟨kE, hkE, -⟩ := Vm.findClass_spec k3
  exact W.aast hC.1 hC.2.1 hcell (fun q h => by cases h) (fun h => by cases h) k1 k2 rfl hkE ⟨nI_pos (by omega), by rw [arrV_size, nI_clamp (by omega)]; exact hj⟩ g1 (fun q h => by rw [h] at g3; cases g3) hkC (hasg _ k3) rfl rfl hd fun H1 e1 e2 e3 => bp_stored hC hR hS hL hu hk hj hn e1 e2 e3 kk
/-- behind something new -/
theorem bp_pushed {p : Program} {e : Env} {R : Room} {s : State} {m : MethodId} {args : Array Value} {below : List Frame} {meth : Method} {c : Code} {H H1 : Heap} {locs : List Loc} {ls : Array Slot} {k : bp_K} {f : Nat → Value} {cell : Cell} {N cells slots : Nat} {pc' : Nat} {st' : Nat → List Value}
    (hC : bp_C G M d p R s m args meth c) (hR : bp_R G h H) (hS : va_S (bp_A G) s.heap H locs) (hL : lv_has ls (bp_n M) lv) (hu : bp_us (bp_B G) s.heap ≤ bp_us (bp_B G) H) (hm : h.2.2 + (1 + N) ≤ bp_max)
    (e1 : H1[H.size]? = some cell) (hN : cell.slots.size = N) (e2 : H1.size = H.size + 1) (e3 : ∀ q, q < H.size → H1[q]? = H[q]?) (hat : bp_at G k f H.size H1) (hc1 : cells = bp_us (bp_B G) H - bp_us (bp_B G) s.heap + 1) (hc2 : slots = bp_us (bp_B G) H - bp_us (bp_B G) s.heap + N)
    (kk : ∀ q : Nat, (h.1 q).1 ≠ 1 → (h.1 q).1 ≠ 2 → bp_B G ≤ q → bp_W G M d pc' lv (st' q) (bp_new h q k f (1 + N)) Φ) :
    W p (bp_l G) e R s m args below meth c H1 locs cells slots
      (vx_MQ below (bp_Qc G Φ) (bp_XC G Φ) args s (bp_max - bp_us (bp_B G) s.heap) (bp_max - bp_us (bp_B G) s.heap) (bp_A G)) (F0 m pc' ls (st' H.size)) := by
  obtain ⟨hR', n1, n2⟩ := bp_R.push (f := f) hR e2 e1 e3 hat (by rw [hN]; exact Nat.le_refl _) hm
  have hu' := bp_us_push hR.2.2.2 e2 e1 e3
  rw [hN] at hu'
  have kk' := kk H.size n1 n2 hR.2.2.2 p e R s m args below meth c H1 locs ls hC hR' ⟨Nat.le_trans hS.1 (by omega), fun x g1 g2 => (e3 x (Nat.lt_of_lt_of_le g1 hS.1)).trans (hS.2.1 x g1 g2), hS.2.2⟩ hL (by omega)
  exact W.widen (by omega) (by omega) kk'
theorem bp_room {p : Program} {R : Room} {s : State} {m : MethodId} {args : Array Value} {meth : Method} {c : Code} {H : Heap} {n : Nat} (hC : bp_C G M d p R s m args meth c) (hR : bp_R G h H) (hu : bp_us (bp_B G) s.heap ≤ bp_us (bp_B G) H) (hm : h.2.2 + n ≤ bp_max) :
    bp_us (bp_B G) H - bp_us (bp_B G) s.heap + n ≤ R.cells ∧ bp_us (bp_B G) H - bp_us (bp_B G) s.heap + n ≤ R.slots := by
  obtain ⟨-, -, r1, r2⟩ := hC.2.2.2.2.2.2.2.2.2.2.2
  have := hR.2.1
  omega
/-- what a new object holds -/
def bp_born (ci : Nat) (ty : Nat → FieldType) : Nat → Value := fun j => defaultValue (ty (j - 32 * ci))
/-- entry idx of class own names class ci, that may be made: N fields, of types ty -/
def bp_NW (own : String) (idx ci N : Nat) (ty : Nat → FieldType) : Prop :=
  ∃ (C : String) (T : u_T), bp_cl[ci]? = some (C, T, N) ∧ (∀ w ∈ u_ws C T N, w ∈ bp_UW) ∧ (∀ k, k < N → parseFieldDescriptor (T k).2.2.1 = some (ty k)) ∧ Cond.classLink own idx C ∈ bp_UW ∧ Cond.instantiable C N ∈ bp_UW ∧ Cond.initialized C ∈ bp_UW
theorem bp_newo {idx ci N : Nat} {ty : Nat → FieldType} (hd : decode (bp_c M) pc = .ok (.new idx, 3)) (hw : bp_NW (bp_own_ M) idx ci N ty) (hm : h.2.2 + (1 + N) ≤ bp_max)
    (kk : ∀ q : Nat, (h.1 q).1 ≠ 1 → (h.1 q).1 ≠ 2 → bp_B G ≤ q → bp_W G M d (pc + 3) lv (.ref q :: st) (bp_new h q (1, ci, 0, 0) (bp_born ci ty) (1 + N)) Φ) : bp_W G M d pc lv st h Φ := by
  intro p e R s m args below meth c H locs ls hC hR hS hL hu
  obtain ⟨C, T, hc, hin, hty, w1, w2, w3⟩ := hw
  have hts := hC.2.2.2.2.2.1
  have hKn := hC.2.2.2.2.2.2.2.1.1.1 ci _ hc
  have hr := bp_room hC hR hu hm
  refine W.newc hC.1 hC.2.1 hC.2.2.2.2.1 (hts _ w1) (hts _ w2) (hts _ w3) rfl hd (by omega) (by omega) fun cC kC h1 h2 h3 h4 => ?_
  generalize hH1 : H.push ({ cls := cC, slots := kC.instanceTypes.map defaultValue, vm := .none } : Cell) = H1
  have z1 : H1.size = H.size + 1 := by rw [← hH1, Array.size_push]
  have e1 : H1[H.size]? = some (blank cC kC) := by rw [← hH1]; simp [blank]
  have o1 : ∀ q : Nat, q < H.size → H1[q]? = H[q]? := fun q hq => by rw [← hH1, Array.getElem?_push, if_neg (Nat.ne_of_lt hq)]
  cases h1.symm.trans hKn.2.1
  refine bp_pushed (st' := fun q => .ref q :: st) (cell := blank _ kC) (k := (1, ci, 0, 0)) (f := bp_born ci ty) hC hR hS hL hu hm e1 (by simp [blank, h4]) z1 o1 ⟨fun _ => ⟨hR.2.2.2, _, hc, ?_⟩, fun z => (by cases z)⟩ rfl rfl kk
  refine (u_born ty hts hin hKn h2 e1 hty).to (fun j hj => ?_)
  simp [bp_born]
theorem bp_newa {n : Int32} {N ti : Nat} {atype : ArrayType} (hd : decode (bp_c M) pc = .ok (.newarray atype, 2)) (hti : ti < 3) (hty : newarray.typeOf atype = bp_ty ti) (hw : Cond.arrayClass (bp_ty ti) ∈ bp_UW) (hn : n = nI N) (hN : N ≤ 1000) (hm : h.2.2 + (1 + N) ≤ bp_max)
    (kk : ∀ q : Nat, (h.1 q).1 ≠ 1 → (h.1 q).1 ≠ 2 → bp_B G ≤ q → bp_W G M d (pc + 2) lv (.ref q :: st) (bp_new h q (2, ti, N, 0) (fun _ => defaultValue (bp_ty ti)) (1 + N)) Φ) : bp_W G M d pc lv (.int n :: st) h Φ := by
  intro p e R s m args below meth c H locs ls hC hR hS hL hu
  subst hn
  have hts := hC.2.2.2.2.2.1
  have hr := bp_room hC hR hu hm
  have hcb : N * componentBytes (newarray.typeOf atype) ≤ 536870912 := by
    have : componentBytes (newarray.typeOf atype) ≤ 8 := by cases atype <;> decide
    calc N * componentBytes (newarray.typeOf atype) ≤ 1000 * 8 := Nat.mul_le_mul hN this
      _ ≤ 536870912 := by decide
  refine va_newaK hC.1 hC.2.1 (atype := atype) (by rw [hty]; exact hts _ hw) rfl hd rfl (nI_pos (by omega)) (nI_clamp (by omega)) hcb (by omega) (by omega) rfl fun H1 cA e1 z1 o1 hAr hNm => ?_
  have hca : cA = bp_ca G ti := by
    have hK := (hC.2.2.2.2.2.2.2.1.1.2 ti _ (bp_tys_at G ti (by omega))).2
    rw [hty] at hNm
    have hR2 : s.vm.findClass ("[" ++ (bp_ty ti).toString) = some (bp_ca G ti) := by
      match ti, hti with
      | 0, _ => exact hK
      | 1, _ => exact hK
      | 2, _ => exact hK
    exact Option.some.inj (hNm.symm.trans hR2)
  subst hca
  rw [hty] at e1
  exact bp_pushed (st' := fun q => .ref q :: st) (k := (2, ti, N, 0)) (f := fun _ => defaultValue (bp_ty ti)) hC hR hS hL hu hm e1 (by rw [arrV_size]) z1 o1 ⟨fun z => (by cases z), fun _ => ⟨hR.2.2.2, by show ti < 5; omega, e1⟩⟩ rfl rfl kk
theorem bp_newO {idx N : Nat} {n : Int32} (hd : decode (bp_c M) pc = .ok (.anewarray idx, 3)) (hw : Cond.classLink (bp_own_ M) idx "java/lang/Object" ∈ bp_UW) (hn : n = nI N) (hN : N ≤ 1000) (hm : h.2.2 + (1 + N) ≤ bp_max)
    (kk : ∀ q : Nat, (h.1 q).1 ≠ 1 → (h.1 q).1 ≠ 2 → bp_B G ≤ q → bp_W G M d (pc + 3) lv (.ref q :: st) (bp_new h q (2, 3, N, 0) (fun _ => .null) (1 + N)) Φ) : bp_W G M d pc lv (.int n :: st) h Φ := by
  intro p e R s m args below meth c H locs ls hC hR hS hL hu
  subst hn
  have hts := hC.2.2.2.2.2.1
  have hr := bp_room hC hR hu hm
  have hcl : (nI N).toNatClampNeg = N := nI_clamp (by omega)
  refine W.anew hC.1 hC.2.1 hC.2.2.2.2.1 (hts _ hw) (va_AO.use hC.2.2.2.2.2.2.2.1.2.2.2.2.2.2.2.2.1) rfl hd rfl (nI_pos (by omega)) (by rw [hcl]; omega) (by omega) (by rw [hcl]; omega) fun cA kA comp f1 f2 f3 f4 => ?_
  rw [hcl]
  generalize hH1 : H.push ({ cls := cA, slots := Array.replicate N .null, vm := .none } : Cell) = H1
  have z1 : H1.size = H.size + 1 := by rw [← hH1, Array.size_push]
  have hca : cA = bp_ca G 3 := by
    have hK := (hC.2.2.2.2.2.2.2.1.1.2 3 _ (bp_tys_at G 3 (by omega))).2
    obtain ⟨-, -, -, -, -, r4⟩ := hK
    exact Option.some.inj (f1.symm.trans r4)
  subst hca
  have e1 : H1[H.size]? = some (arrV (bp_ca G 3) N (fun _ => .null)) := by rw [← hH1, ← arrV_new]; simp
  have o1 : ∀ q : Nat, q < H.size → H1[q]? = H[q]? := fun q hq => by rw [← hH1, Array.getElem?_push, if_neg (Nat.ne_of_lt hq)]
  exact bp_pushed (st' := fun q => .ref q :: st) (k := (2, 3, N, 0)) (f := fun _ => .null) hC hR hS hL hu hm e1 (by rw [arrV_size]) z1 o1 ⟨fun z => (by cases z), fun _ => ⟨hR.2.2.2, by show 3 < 5; omega, e1⟩⟩ rfl rfl kk
/-- a receiver of class ci -/
theorem bp_recv {p : Program} {R : Room} {s : State} {m : MethodId} {args : Array Value} {meth : Method} {c : Code} {H : Heap} {a ci N : Nat} {C : String} {T : u_T} (hC : bp_C G M d p R s m args meth c) (hR : bp_R G h H) (hc : bp_cl[ci]? = some (C, T, N)) (hk : (h.1 a).1 = 1 ∧ (h.1 a).2.1 = ci) :
    ∃ cell : Cell, H[a]? = some cell ∧ cell.vm.isStatics = false ∧ s.vm.findClass C = some cell.cls := by
  obtain ⟨-, r, h1, cell, q1, q2, q3, q4⟩ := (hR.1 a).1 hk.1
  rw [hk.2] at h1 q2
  obtain ⟨-, hfc, -⟩ := hC.2.2.2.2.2.2.2.1.1.1 ci _ hc
  exact ⟨cell, q1, by rw [q3]; rfl, by rw [q2]; exact hfc⟩
theorem bp_cast {idx a ci N : Nat} {C : String} {T : u_T} (hd : decode (bp_c M) pc = .ok (.checkcast idx, 3)) (hc : bp_cl[ci]? = some (C, T, N)) (hw : Cond.classLink (bp_own_ M) idx C ∈ bp_UW) (hk : (h.1 a).1 = 1 ∧ (h.1 a).2.1 = ci) (kk : bp_W G M d (pc + 3) lv (.ref a :: st) h Φ) : bp_W G M d pc lv (.ref a :: st) h Φ := by
  intro p e R s m args below meth c H locs ls hC hR hS hL hu
  exact va_castS hC.1 hC.2.1 hC.2.2.2.2.1 (hC.2.2.2.2.2.1 _ hw) ((hC.2.2.2.2.2.2.2.1.1.1 ci _ hc).2) (bp_recv hC hR hc hk) hd (kk p e R s m args below meth c H locs ls hC hR hS hL hu)
theorem bp_castO {idx a n o : Nat} (hd : decode (bp_c M) pc = .ok (.checkcast idx, 3)) (hw : Cond.classLink (bp_own_ M) idx "[Ljava/lang/Object;" ∈ bp_UW) (hk : h.1 a = (2, 3, n, o)) (kk : bp_W G M d (pc + 3) lv (.ref a :: st) h Φ) : bp_W G M d pc lv (.ref a :: st) h Φ := by
  intro p e R s m args below meth c H locs ls hC hR hS hL hu
  obtain ⟨hB, hcell, harr, hRA, -⟩ := bp_arr hC hR hk
  intro T hT X
  obtain ⟨vm', X', st9⟩ := X.checkcastYes hC.1 hC.2.2.2.2.1 (hC.2.2.2.2.2.1 _ hw) (by rw [hT]; exact hcell) rfl (va_nmO hRA (by decide +kernel)) (va_asg _ _) (g := F0 m pc ls (.ref a :: st)) rfl rfl (by rw [hC.2.1]; exact hd)
  obtain ⟨t, a1, b1⟩ := kk p e R s m args below meth c H locs ls hC hR hS hL hu (T.setVm vm') hT X'
  exact ⟨t, st9 t a1, b1⟩

end BPC

