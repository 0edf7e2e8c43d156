/-! ===== constructors ===== -/
section BQC
variable {G : bp_X} {M : bp_M} {d pc : Nat} {lv : List (Nat × Value)} {st : List Value} {w : bq_O} {Φ : bp_O → bq_O → Prop}
/-- the same objects, told otherwise -/
theorem bq_conv {v2 : Nat → Nat → Nat → Value} {ls2 : Nat → List Nat} (hv : ∀ c i k, bq_V w c i → c < 7 → k < 32 → bq_v w c i k = v2 c i k) (ha : ∀ i k, bq_V w 8 i → k < (bq_at w i).2 → bq_v w 8 i k = v2 8 i k) (hl : ∀ n, bq_V w 7 n → bq_ls w n = ls2 n)
    (kk : bq_W G M d pc lv st (w.1, w.2.1, v2, ls2, w.2.2.2.2) Φ) : bq_W G M d pc lv st w Φ := by
  intro h hH
  refine kk h ?_
  obtain ⟨cp, h1, h2, h3, h4⟩ := hH
  refine ⟨cp, fun c i hV hc => ⟨(h1 c i hV hc).1, fun k hk => ((h1 c i hV hc).2 k hk).trans (hv c i k hV hc hk)⟩, fun n hV => ?_, fun n hV => ⟨(h3 n hV).1, fun j hj => ((h3 n hV).2 j hj).trans (ha n j hV hj)⟩, h4⟩
  have := h2 n hV
  rw [hl n hV] at this
  exact this
theorem bq_H.newa {h : bp_H} (hH : bq_H G h w) {i q ti N : Nat} {f g : Nat → Value} (hi : ¬ bq_V w 8 i) (f1 : (h.1 q).1 ≠ 1) (f2 : (h.1 q).1 ≠ 2) (hg : ∀ j : Nat, j < N → g (4096 + j) = f j) (hm : bq_us w + (1 + N) ≤ bp_max) :
    bq_H G (bp_new h q (2, ti, N, 0) g (1 + N)) (bq_n w 8 i q f (ti, N) (1 + N)) := by
  obtain ⟨cp, o1, o2, o3, o4, o5⟩ := hH.old (f := f) (t := (ti, N)) (n := 1 + N) (k := (2, ti, N, 0)) (g := g) (m := 1 + N) hi f1 f2
  refine ⟨cp, fun c' i' hV hc' => ?_, fun l hV => ?_, fun a hV => ?_, o4, ?_, hm⟩
  · rcases hV with hV | ⟨rfl, rfl⟩
    · exact o1 c' i' hV hc'
    · omega
  · rcases hV with hV | ⟨e, -⟩
    · have e7 : bq_ls (bq_n w 8 i q f (ti, N) (1 + N)) l = bq_ls w l := by
        show (if (8 : Nat) = 7 ∧ l = i then [] else bq_ls w l) = _
        rw [if_neg (by omega)]
      rw [e7]
      obtain ⟨g1, g2, g3⟩ := o2 l hV
      exact ⟨g1, g2, fun x hx => Or.inl (g3 x hx)⟩
    · omega
  · by_cases e : a = i
    · subst e
      rw [bq_n_ad, bq_n_v]
      have e8 : bq_at (bq_n w 8 a q f (ti, N) (1 + N)) a = (ti, N) := by
        show (if (8 : Nat) = 8 ∧ a = a then (ti, N) else bq_at w a) = _
        rw [if_pos ⟨rfl, rfl⟩]
      rw [e8]
      exact ⟨bp_new_at, fun j hj => bp_new_v.trans (hg j hj)⟩
    · have e8 : bq_at (bq_n w 8 i q f (ti, N) (1 + N)) a = bq_at w a := by
        show (if (8 : Nat) = 8 ∧ a = i then (ti, N) else bq_at w a) = _
        rw [if_neg (fun z => e z.2)]
      rw [e8]
      rcases hV with hV | ⟨-, e9⟩
      · exact o3 a hV
      · exact absurd e9 e
  · show h.2.2 + (1 + N) + _ ≤ bq_us w + (1 + N)
    omega
/-- five arrays: four rows of four -/
def bq_gd (w : bq_O) (q : Nat) : bq_O := bq_n (bq_n (bq_n (bq_n (bq_n w 8 0 q (fun j => .ref (q + 1 + j)) (4, 4) 5) 8 1 (q + 1) (fun _ => .int 0) (0, 4) 5) 8 2 (q + 1 + 1) (fun _ => .int 0) (0, 4) 5) 8 3 (q + 1 + 2) (fun _ => .int 0) (0, 4) 5) 8 4 (q + 1 + 3) (fun _ => .int 0) (0, 4) 5
theorem bq_mna {idx : Nat} (hd : decode (bp_c M) pc = .ok (.multianewarray idx 2, 4)) (hw : Cond.classLink (bp_own_ M) idx "[[I" ∈ bp_UW) (hi : ∀ i, i < 5 → ¬ bq_V w 8 i) (hm : bq_us w + 25 ≤ bp_max)
    (kk : ∀ q : Nat, bq_W G M d (pc + 4) lv (.ref q :: st) (bq_gd w q) Φ) : bq_W G M d pc lv (.int (nI 4) :: .int (nI 4) :: st) w Φ := by
  intro h hH
  have hu : h.2.2 ≤ bq_us w := by obtain ⟨cp, -, -, -, -, h5, -⟩ := hH; omega
  refine bp_mna hd hw (by omega) (fun q a1 a2 a3 => ?_)
  refine kk q (bp_gd h q) ?_
  have up : ∀ (g : bp_H) (q n : Nat) (k : bp_K) (f : Nat → Value), q ≠ n → (bp_new g n k f 5).1 q = g.1 q := fun g q n k f hq => if_neg hq
  have nv : ∀ (u : bq_O) (i j p : Nat) (f : Nat → Value) (t : Nat × Nat), ¬ bq_V u 8 i → i ≠ j → ¬ bq_V (bq_n u 8 j p f t 5) 8 i := fun u i j p f t h1 h2 z => by
    rcases z with z | ⟨-, z⟩
    · exact h1 z
    · exact h2 z
  have H0 := hH.newa (i := 0) (q := q) (ti := 4) (N := 4) (f := fun j => .ref (q + 1 + j)) (g := fun k => .ref (q + 1 + (k - 4096))) (hi 0 (by omega)) a1 a2 (fun j _ => by rw [Nat.add_sub_cancel_left]) (by omega)
  have H1 := H0.newa (i := 1) (q := q + 1) (ti := 0) (N := 4) (f := fun _ => .int 0) (g := fun _ => .int 0) (nv _ _ _ _ _ _ (hi 1 (by omega)) (by omega)) (by rw [up _ _ _ _ _ (by omega)]; exact (a3 0 (by omega)).1) (by rw [up _ _ _ _ _ (by omega)]; exact (a3 0 (by omega)).2) (fun _ _ => rfl) (by show bq_us w + (1 + 4) + (1 + 4) ≤ _; omega)
  have H2 := H1.newa (i := 2) (q := q + 1 + 1) (ti := 0) (N := 4) (f := fun _ => .int 0) (g := fun _ => .int 0) (nv _ _ _ _ _ _ (nv _ _ _ _ _ _ (hi 2 (by omega)) (by omega)) (by omega)) (by rw [up _ _ _ _ _ (by omega), up _ _ _ _ _ (by omega)]; exact (a3 1 (by omega)).1) (by rw [up _ _ _ _ _ (by omega), up _ _ _ _ _ (by omega)]; exact (a3 1 (by omega)).2) (fun _ _ => rfl) (by show bq_us w + (1 + 4) + (1 + 4) + (1 + 4) ≤ _; omega)
  have H3 := H2.newa (i := 3) (q := q + 1 + 2) (ti := 0) (N := 4) (f := fun _ => .int 0) (g := fun _ => .int 0) (nv _ _ _ _ _ _ (nv _ _ _ _ _ _ (nv _ _ _ _ _ _ (hi 3 (by omega)) (by omega)) (by omega)) (by omega)) (by rw [up _ _ _ _ _ (by omega), up _ _ _ _ _ (by omega), up _ _ _ _ _ (by omega)]; exact (a3 2 (by omega)).1) (by rw [up _ _ _ _ _ (by omega), up _ _ _ _ _ (by omega), up _ _ _ _ _ (by omega)]; exact (a3 2 (by omega)).2) (fun _ _ => rfl) (by show bq_us w + (1 + 4) + (1 + 4) + (1 + 4) + (1 + 4) ≤ _; omega)
  exact H3.newa (i := 4) (q := q + 1 + 3) (ti := 0) (N := 4) (f := fun _ => .int 0) (g := fun _ => .int 0) (nv _ _ _ _ _ _ (nv _ _ _ _ _ _ (nv _ _ _ _ _ _ (nv _ _ _ _ _ _ (hi 4 (by omega)) (by omega)) (by omega)) (by omega)) (by omega)) (by rw [up _ _ _ _ _ (by omega), up _ _ _ _ _ (by omega), up _ _ _ _ _ (by omega), up _ _ _ _ _ (by omega)]; exact (a3 3 (by omega)).1) (by rw [up _ _ _ _ _ (by omega), up _ _ _ _ _ (by omega), up _ _ _ _ _ (by omega), up _ _ _ _ _ (by omega)]; exact (a3 3 (by omega)).2) (fun _ _ => rfl) (by show bq_us w + (1 + 4) + (1 + 4) + (1 + 4) + (1 + 4) + (1 + 4) ≤ _; omega)
/-- a call of a constructor -/
theorem bq_callIp {M' : bp_M} {idx d' b : Nat} {As st0 : List Value} {P : Option Value → bq_O → Prop} (hd : decode (bp_c M) pc = .ok (.invokespecial idx, 3)) (hm : bp_MI (bp_own_ M) idx M' As.length)
    (hM : bq_S G M' d' (.ref b :: As) w (bq_val P)) (hdd : d' + 1 ≤ d) (hn : bp_n M' ≤ 20) (hst : (st.map fun v => v.category).sum ≤ 8) (hst0 : st0 = As.reverse ++ .ref b :: st) (kk : ∀ (v : Option Value) (w' : bq_O), P v w' → bq_W G M d (pc + 3) lv (v.toList ++ st) w' Φ) : bq_W G M d pc lv st0 w Φ :=
  bq_callI hd hm hM hdd hn hst hst0 (fun v h' hp => by obtain ⟨u, e, hp⟩ := hp; cases e; exact kk _ _ hp) (fun E h' hp => by obtain ⟨u, e, hp⟩ := hp; cases e)
/-- a final field, in the constructor -/
theorem bq_putfi {idx c i k b : Nat} {ty : FieldType} {fin : Option Bool} {x : Value} (hb : b = bq_ad w c i) (hd : decode (bp_c M) pc = .ok (.putfield idx, 3)) (fl : bp_FL (bp_own_ M) idx c k ty fin) (hfin : fin = some false ∨ (fin = some true ∧ (bp_y M).name = "<init>")) (hV : bq_V w c i) (hck : c < 7 ∧ k < 32) (hn : narrow ty x = x) (hf : fits ty x = true)
    (kk : bq_W G M d (pc + 3) lv st (bq_f w c i k x) Φ) : bq_W G M d pc lv (x :: .ref b :: st) w Φ := by
  subst hb
  exact bq_putf hd fl hfin hV hck hn hf kk
end BQC
def b_iM (w : bq_O) (m q : Nat) : bq_O := bq_f (bq_f (bq_n w 7 (4 + m) q (fun _ => .null) (0, 0) 88) 1 m 0 (.ref q)) 1 m 1 (.int (nI 4))
def b_iJ (w : bq_O) (j q : Nat) (n due : Int32) : bq_O := bq_f (bq_n (bq_f (bq_f w 0 j 0 (.int n)) 0 j 1 (.int due)) 7 (8 + j) q (fun _ => .null) (0, 0) 88) 0 j 2 (.ref q)
def b_iO (w : bq_O) (i job mach : Nat) (n l f t : Int32) : bq_O := bq_f (bq_f (bq_f (bq_f (bq_f (bq_f w 2 i 0 (.ref job)) 2 i 1 (.int n)) 2 i 2 (.ref mach)) 2 i 3 (.int l)) 2 i 4 (.int f)) 2 i 5 (.int t)
def b_iS (w : bq_O) (q : Nat) : bq_O := bq_f (bq_gd w q) 3 0 0 (.ref q)
set_option maxRecDepth 100000 in
set_option maxHeartbeats 400000 in
theorem i_mach {G : bp_X} {w : bq_O} {m : Nat} (hm : m < 4) (hV : bq_V w 1 m) (hL : ¬ bq_V w 7 (4 + m)) (hr : bq_us w + 88 ≤ bp_max) : bq_S G mX1_init 5 [.ref (bq_ad w 1 m)] w (bq_val (fun v w2 => v = none ∧ ∃ q, w2 = b_iM w m q)) := by
  refine bq_ofW (by decide +kernel) rfl (Nat.le_of_ble_eq_true rfl) ?_
  refine bq_aload_n (i := 0) dX1_init_0 rfl ?_
  refine bq_objInit dX1_init_1 ⟨ml_X1_3, ow_1, ow_2⟩ (by decide) (Nat.le_of_ble_eq_true rfl) ?_
  refine bq_aload_n (i := 0) dX1_init_4 rfl ?_
  refine bq_newl (i := 4 + m) dX1_init_5 nw_X1_9 dX1_init_8 dX1_init_9 ml_X1_11 hL (by omega) (by decide) (Nat.le_of_ble_eq_true rfl) hr (fun q => ?_)
  rw [bq_n_ad]
  refine bq_putfi (c := 1) (i := m) (k := 0) (by first | rfl | exact (bq_n_ado (by omega)).symm | exact ((bq_n_ado (by omega)).trans (bq_n_ado (by omega))).symm) dX1_init_12 fl_X1_12 (Or.inr ⟨rfl, rfl⟩) (Or.inl hV) (by decide) rfl rfl ?_
  refine bq_aload_n (i := 0) dX1_init_15 rfl ?_
  refine bq_iconst (v := (nI 4)) dX1_init_16 (by decide) ?_
  refine bq_putfi (c := 1) (i := m) (k := 1) (by first | rfl | exact (bq_n_ado (by omega)).symm | exact ((bq_n_ado (by omega)).trans (bq_n_ado (by omega))).symm) dX1_init_17 fl_X1_18 (Or.inl rfl) (Or.inl hV) (by decide) rfl rfl ?_
  exact bq_vret dX1_init_20 rfl (bq_val_i ⟨rfl, q, rfl⟩)
set_option maxRecDepth 100000 in
set_option maxHeartbeats 400000 in
theorem i_job {G : bp_X} {w : bq_O} {j : Nat} {n due : Int32} (hj : j < 8) (hV : bq_V w 0 j) (hL : ¬ bq_V w 7 (8 + j)) (hr : bq_us w + 88 ≤ bp_max) : bq_S G mX0_init 5 [.ref (bq_ad w 0 j), .int n, .int due] w (bq_val (fun v w2 => v = none ∧ ∃ q, w2 = b_iJ w j q n due)) := by
  refine bq_ofW (by decide +kernel) rfl (Nat.le_of_ble_eq_true rfl) ?_
  refine bq_aload_n (i := 0) dX0_init_0 rfl ?_
  refine bq_objInit dX0_init_1 ⟨ml_X0_1, ow_1, ow_2⟩ (by decide) (Nat.le_of_ble_eq_true rfl) ?_
  refine bq_aload_n (i := 0) dX0_init_4 rfl ?_
  refine bq_iload_n (i := 1) dX0_init_5 rfl ?_
  refine bq_putfi (c := 0) (i := j) (k := 0) (by first | rfl | exact (bq_n_ado (by omega)).symm | exact ((bq_n_ado (by omega)).trans (bq_n_ado (by omega))).symm) dX0_init_6 fl_X0_7 (Or.inr ⟨rfl, rfl⟩) hV (by decide) rfl rfl ?_
  refine bq_aload_n (i := 0) dX0_init_9 rfl ?_
  refine bq_iload_n (i := 2) dX0_init_10 rfl ?_
  refine bq_putfi (c := 0) (i := j) (k := 1) (by first | rfl | exact (bq_n_ado (by omega)).symm | exact ((bq_n_ado (by omega)).trans (bq_n_ado (by omega))).symm) dX0_init_11 fl_X0_13 (Or.inr ⟨rfl, rfl⟩) hV (by decide) rfl rfl ?_
  refine bq_aload_n (i := 0) dX0_init_14 rfl ?_
  refine bq_newl (i := 8 + j) dX0_init_15 nw_X0_16 dX0_init_18 dX0_init_19 ml_X0_18 hL (by omega) (by decide) (Nat.le_of_ble_eq_true rfl) hr (fun q => ?_)
  rw [bq_n_ad]
  refine bq_putfi (c := 0) (i := j) (k := 2) (by first | rfl | exact (bq_n_ado (by omega)).symm | exact ((bq_n_ado (by omega)).trans (bq_n_ado (by omega))).symm) dX0_init_22 fl_X0_19 (Or.inr ⟨rfl, rfl⟩) (Or.inl hV) (by decide) rfl rfl ?_
  exact bq_vret dX0_init_25 rfl (bq_val_i ⟨rfl, q, rfl⟩)
set_option maxRecDepth 100000 in
set_option maxHeartbeats 400000 in
theorem i_op {G : bp_X} {w : bq_O} {i a b : Nat} {n l f t : Int32} (hV : bq_V w 2 i) : bq_S G mX2_init 5 [.ref (bq_ad w 2 i), .ref a, .int n, .ref b, .int l, .int f, .int t] w (bq_ret none (b_iO w i a b n l f t)) := by
  refine bq_ofW (by decide +kernel) rfl (Nat.le_of_ble_eq_true rfl) ?_
  refine bq_aload_n (i := 0) dX2_init_0 rfl ?_
  refine bq_objInit dX2_init_1 ⟨ml_X2_1, ow_1, ow_2⟩ (by decide) (Nat.le_of_ble_eq_true rfl) ?_
  refine bq_aload_n (i := 0) dX2_init_4 rfl ?_
  refine bq_aload_n (i := 1) dX2_init_5 rfl ?_
  refine bq_putfi (c := 2) (i := i) (k := 0) (by first | rfl | exact (bq_n_ado (by omega)).symm | exact ((bq_n_ado (by omega)).trans (bq_n_ado (by omega))).symm) dX2_init_6 fl_X2_7 (Or.inr ⟨rfl, rfl⟩) hV (by decide) rfl rfl ?_
  refine bq_aload_n (i := 0) dX2_init_9 rfl ?_
  refine bq_iload_n (i := 2) dX2_init_10 rfl ?_
  refine bq_putfi (c := 2) (i := i) (k := 1) (by first | rfl | exact (bq_n_ado (by omega)).symm | exact ((bq_n_ado (by omega)).trans (bq_n_ado (by omega))).symm) dX2_init_11 fl_X2_13 (Or.inr ⟨rfl, rfl⟩) hV (by decide) rfl rfl ?_
  refine bq_aload_n (i := 0) dX2_init_14 rfl ?_
  refine bq_aload_n (i := 3) dX2_init_15 rfl ?_
  refine bq_putfi (c := 2) (i := i) (k := 2) (by first | rfl | exact (bq_n_ado (by omega)).symm | exact ((bq_n_ado (by omega)).trans (bq_n_ado (by omega))).symm) dX2_init_16 fl_X2_17 (Or.inr ⟨rfl, rfl⟩) hV (by decide) rfl rfl ?_
  refine bq_aload_n (i := 0) dX2_init_19 rfl ?_
  refine bq_iload (i := 4) dX2_init_20 rfl ?_
  refine bq_putfi (c := 2) (i := i) (k := 3) (by first | rfl | exact (bq_n_ado (by omega)).symm | exact ((bq_n_ado (by omega)).trans (bq_n_ado (by omega))).symm) dX2_init_22 fl_X2_21 (Or.inr ⟨rfl, rfl⟩) hV (by decide) rfl rfl ?_
  refine bq_aload_n (i := 0) dX2_init_25 rfl ?_
  refine bq_iload (i := 5) dX2_init_26 rfl ?_
  refine bq_putfi (c := 2) (i := i) (k := 4) (by first | rfl | exact (bq_n_ado (by omega)).symm | exact ((bq_n_ado (by omega)).trans (bq_n_ado (by omega))).symm) dX2_init_28 fl_X2_24 (Or.inr ⟨rfl, rfl⟩) hV (by decide) rfl rfl ?_
  refine bq_aload_n (i := 0) dX2_init_31 rfl ?_
  refine bq_iload (i := 6) dX2_init_32 rfl ?_
  refine bq_putfi (c := 2) (i := i) (k := 5) (by first | rfl | exact (bq_n_ado (by omega)).symm | exact ((bq_n_ado (by omega)).trans (bq_n_ado (by omega))).symm) dX2_init_34 fl_X2_27 (Or.inr ⟨rfl, rfl⟩) hV (by decide) rfl rfl ?_
  exact bq_vret dX2_init_37 rfl bq_ret_i
theorem bq_gd_ad {w : bq_O} {q c i : Nat} (hc : c ≠ 8 := by decide) : bq_ad (bq_gd w q) c i = bq_ad w c i := by
  unfold bq_gd
  rw [bq_n_ado (by omega), bq_n_ado (by omega), bq_n_ado (by omega), bq_n_ado (by omega), bq_n_ado (by omega)]
set_option maxRecDepth 100000 in
set_option maxHeartbeats 400000 in
theorem i_set {G : bp_X} {w : bq_O} (hV : bq_V w 3 0) (hA : ∀ i, i < 5 → ¬ bq_V w 8 i) (hr : bq_us w + 25 ≤ bp_max) : bq_S G mX3_init 5 [.ref (bq_ad w 3 0)] w (bq_val (fun v w2 => v = none ∧ ∃ q, w2 = b_iS w q)) := by
  refine bq_ofW (by decide +kernel) rfl (Nat.le_of_ble_eq_true rfl) ?_
  refine bq_aload_n (i := 0) dX3_init_0 rfl ?_
  refine bq_objInit dX3_init_1 ⟨ml_X3_3, ow_1, ow_2⟩ (by decide) (Nat.le_of_ble_eq_true rfl) ?_
  refine bq_aload_n (i := 0) dX3_init_4 rfl ?_
  refine bq_iconst (v := (nI 4)) dX3_init_5 (by decide) ?_
  refine bq_iconst (v := (nI 4)) dX3_init_6 (by decide) ?_
  refine bq_mna dX3_init_7 cl_X3_9 hA hr (fun q => ?_)
  refine bq_putfi (c := 3) (i := 0) (k := 0) (by rw [bq_gd_ad]) dX3_init_11 fl_X3_11 (Or.inr ⟨rfl, rfl⟩) (Or.inl (Or.inl (Or.inl (Or.inl (Or.inl hV))))) (by decide) rfl rfl ?_
  exact bq_vret dX3_init_14 rfl (bq_val_i ⟨rfl, q, rfl⟩)
theorem bq_nNV {w : bq_O} {c i c' i' q n : Nat} {f : Nat → Value} {t : Nat × Nat} (h : ¬ bq_V w c i) (h2 : ¬ (c = c' ∧ i = i')) : ¬ bq_V (bq_n w c' i' q f t n) c i := fun z => by
  rcases z with z | z
  · exact h z
  · exact h2 z
theorem bq_fNV {w : bq_O} {c i c' i' k : Nat} {x : Value} (h : ¬ bq_V w c i) : ¬ bq_V (bq_f w c' i' k x) c i := h
theorem bq_nVl {w : bq_O} {c i c' i' q n : Nat} {f : Nat → Value} {t : Nat × Nat} (h : bq_V w c i) : bq_V (bq_n w c' i' q f t n) c i := Or.inl h
theorem bq_nVr {w : bq_O} {c i q n : Nat} {f : Nat → Value} {t : Nat × Nat} : bq_V (bq_n w c i q f t n) c i := Or.inr ⟨rfl, rfl⟩
theorem bq_fVl {w : bq_O} {c i c' i' k : Nat} {x : Value} (h : bq_V w c i) : bq_V (bq_f w c' i' k x) c i := h
def b_iH1 (w : bq_O) (l k q : Nat) : bq_O := bq_f (bq_n w 7 l q (fun _ => .null) (0, 0) 88) 4 0 k (.ref q)
def b_iH2 (w : bq_O) (q qa : Nat) : bq_O := bq_f (b_iS (bq_n w 3 0 q (bq_born tyX3) (0, 0) 2) qa) 4 0 2 (.ref q)
def b_iH (w : bq_O) (q0 q1 q3 qa q2 q4 : Nat) : bq_O := b_iH1 (b_iH1 (b_iH2 (b_iH1 (b_iH1 w 0 0 q0) 1 1 q1) q3 qa) 2 3 q2) 3 4 q4
def b_iB (w : bq_O) (qs q0 q1 q3 qa q2 q4 : Nat) : bq_O := bq_f (b_iH (bq_n w 4 0 qs (bq_born tyX4) (0, 0) 7) q0 q1 q3 qa q2 q4) 5 0 0 (.ref qs)
set_option maxRecDepth 100000 in
set_option maxHeartbeats 400000 in
theorem i_shop {G : bp_X} {w : bq_O} (hN : ∀ c i, c ≠ 4 ∧ c ≠ 5 → ¬ bq_V w c i) (hV : bq_V w 4 0) (hr : bq_us w + 400 ≤ bp_max) : bq_S G mX4_init 6 [.ref (bq_ad w 4 0)] w (bq_val (fun v w2 => v = none ∧ ∃ q0 q1 q3 qa q2 q4, w2 = b_iH w q0 q1 q3 qa q2 q4)) := by
  refine bq_ofW (by decide +kernel) rfl (Nat.le_of_ble_eq_true rfl) ?_
  refine bq_aload_n (i := 0) dX4_init_0 rfl ?_
  refine bq_objInit dX4_init_1 ⟨ml_X4_3, ow_1, ow_2⟩ (by decide) (Nat.le_of_ble_eq_true rfl) ?_
  refine bq_aload_n (i := 0) dX4_init_4 rfl ?_
  refine bq_newl (i := 0) dX4_init_5 nw_X4_9 dX4_init_8 dX4_init_9 ml_X4_11 (by
    try unfold b_iB
    try unfold b_iH
    try unfold b_iH2
    try unfold b_iH1
    try unfold b_iS
    try unfold bq_gd
    repeat (first | exact hN _ _ ⟨by decide, by decide⟩ | (with_reducible refine bq_fNV ?_) | (with_reducible refine bq_nNV ?_ (by decide)))) (by omega) (by decide) (Nat.le_of_ble_eq_true rfl) (by show bq_us w + 88 ≤ bp_max; omega) (fun q0 => ?_)
  rw [bq_n_ad]
  refine bq_putfi (c := 4) (i := 0) (k := 0) rfl dX4_init_12 fl_X4_12 (Or.inr ⟨rfl, rfl⟩) (by
    try unfold b_iB
    try unfold b_iH
    try unfold b_iH2
    try unfold b_iH1
    try unfold b_iS
    try unfold bq_gd
    repeat (first | assumption | (with_reducible exact bq_nVr) | (with_reducible refine bq_fVl ?_) | (with_reducible refine bq_nVl ?_))) (by decide) rfl rfl ?_
  refine bq_aload_n (i := 0) dX4_init_15 rfl ?_
  refine bq_newl (i := 1) dX4_init_16 nw_X4_9 dX4_init_19 dX4_init_20 ml_X4_11 (by
    try unfold b_iB
    try unfold b_iH
    try unfold b_iH2
    try unfold b_iH1
    try unfold b_iS
    try unfold bq_gd
    repeat (first | exact hN _ _ ⟨by decide, by decide⟩ | (with_reducible refine bq_fNV ?_) | (with_reducible refine bq_nNV ?_ (by decide)))) (by omega) (by decide) (Nat.le_of_ble_eq_true rfl) (by show bq_us w + 88 + 88 ≤ bp_max; omega) (fun q1 => ?_)
  rw [bq_n_ad]
  refine bq_putfi (c := 4) (i := 0) (k := 1) rfl dX4_init_23 fl_X4_18 (Or.inr ⟨rfl, rfl⟩) (by
    try unfold b_iB
    try unfold b_iH
    try unfold b_iH2
    try unfold b_iH1
    try unfold b_iS
    try unfold bq_gd
    repeat (first | assumption | (with_reducible exact bq_nVr) | (with_reducible refine bq_fVl ?_) | (with_reducible refine bq_nVl ?_))) (by decide) rfl rfl ?_
  refine bq_aload_n (i := 0) dX4_init_26 rfl ?_
  refine bq_newo (c := 3) (i := 0) dX4_init_27 nw_X4_21 (by decide) (by
    try unfold b_iB
    try unfold b_iH
    try unfold b_iH2
    try unfold b_iH1
    try unfold b_iS
    try unfold bq_gd
    repeat (first | exact hN _ _ ⟨by decide, by decide⟩ | (with_reducible refine bq_fNV ?_) | (with_reducible refine bq_nNV ?_ (by decide)))) (by show bq_us w + 88 + 88 + 2 ≤ bp_max; omega) (fun q3 => ?_)
  rw [bq_n_ad]
  refine bq_dup dX4_init_30 rfl ?_
  have i3 := i_set (G := G) (w := bq_n (b_iH1 (b_iH1 w 0 0 q0) 1 1 q1) 3 0 q3 (bq_born tyX3) (0, 0) 2) bq_nVr (by
    intro i hi
    try unfold b_iB
    try unfold b_iH
    try unfold b_iH2
    try unfold b_iH1
    try unfold b_iS
    try unfold bq_gd
    repeat (first | exact hN _ _ ⟨by decide, by decide⟩ | (with_reducible refine bq_fNV ?_) | (with_reducible refine bq_nNV ?_ (by omega)))) (by show bq_us w + 88 + 88 + 2 + 25 ≤ bp_max; omega)
  rw [bq_n_ad] at i3
  refine bq_callIp dX4_init_31 ml_X4_23 i3 (by decide) (by decide) (Nat.le_of_ble_eq_true rfl) rfl (fun v_31 w_31 p_31 => ?_)
  obtain ⟨rfl, qa, rfl⟩ := p_31
  refine bq_putfi (c := 4) (i := 0) (k := 2) rfl dX4_init_34 fl_X4_24 (Or.inr ⟨rfl, rfl⟩) (by
    try unfold b_iB
    try unfold b_iH
    try unfold b_iH2
    try unfold b_iH1
    try unfold b_iS
    try unfold bq_gd
    repeat (first | assumption | (with_reducible exact bq_nVr) | (with_reducible refine bq_fVl ?_) | (with_reducible refine bq_nVl ?_))) (by decide) rfl rfl ?_
  refine bq_aload_n (i := 0) dX4_init_37 rfl ?_
  refine bq_newl (i := 2) dX4_init_38 nw_X4_9 dX4_init_41 dX4_init_42 ml_X4_11 (by
    try unfold b_iB
    try unfold b_iH
    try unfold b_iH2
    try unfold b_iH1
    try unfold b_iS
    try unfold bq_gd
    repeat (first | exact hN _ _ ⟨by decide, by decide⟩ | (with_reducible refine bq_fNV ?_) | (with_reducible refine bq_nNV ?_ (by decide)))) (by omega) (by decide) (Nat.le_of_ble_eq_true rfl) (by show bq_us w + 88 + 88 + 2 + 5 + 5 + 5 + 5 + 5 + 88 ≤ bp_max; omega) (fun q2 => ?_)
  rw [bq_n_ad]
  refine bq_putfi (c := 4) (i := 0) (k := 3) rfl dX4_init_45 fl_X4_28 (Or.inr ⟨rfl, rfl⟩) (by
    try unfold b_iB
    try unfold b_iH
    try unfold b_iH2
    try unfold b_iH1
    try unfold b_iS
    try unfold bq_gd
    repeat (first | assumption | (with_reducible exact bq_nVr) | (with_reducible refine bq_fVl ?_) | (with_reducible refine bq_nVl ?_))) (by decide) rfl rfl ?_
  refine bq_aload_n (i := 0) dX4_init_48 rfl ?_
  refine bq_newl (i := 3) dX4_init_49 nw_X4_9 dX4_init_52 dX4_init_53 ml_X4_11 (by
    try unfold b_iB
    try unfold b_iH
    try unfold b_iH2
    try unfold b_iH1
    try unfold b_iS
    try unfold bq_gd
    repeat (first | exact hN _ _ ⟨by decide, by decide⟩ | (with_reducible refine bq_fNV ?_) | (with_reducible refine bq_nNV ?_ (by decide)))) (by omega) (by decide) (Nat.le_of_ble_eq_true rfl) (by show bq_us w + 88 + 88 + 2 + 5 + 5 + 5 + 5 + 5 + 88 + 88 ≤ bp_max; omega) (fun q4 => ?_)
  rw [bq_n_ad]
  refine bq_putfi (c := 4) (i := 0) (k := 4) rfl dX4_init_56 fl_X4_31 (Or.inr ⟨rfl, rfl⟩) (by
    try unfold b_iB
    try unfold b_iH
    try unfold b_iH2
    try unfold b_iH1
    try unfold b_iS
    try unfold bq_gd
    repeat (first | assumption | (with_reducible exact bq_nVr) | (with_reducible refine bq_fVl ?_) | (with_reducible refine bq_nVl ?_))) (by decide) rfl rfl ?_
  exact bq_vret dX4_init_59 rfl (bq_val_i ⟨rfl, q0, q1, q3, qa, q2, q4, rfl⟩)
set_option maxRecDepth 100000 in
set_option maxHeartbeats 400000 in
theorem i_bore {G : bp_X} {w : bq_O} (hN : ∀ c i, c ≠ 5 → ¬ bq_V w c i) (hV : bq_V w 5 0) (hr : bq_us w + 407 ≤ bp_max) : bq_S G mX5_init 7 [.ref (bq_ad w 5 0)] w (bq_val (fun v w2 => v = none ∧ ∃ qs q0 q1 q3 qa q2 q4, w2 = b_iB w qs q0 q1 q3 qa q2 q4)) := by
  refine bq_ofW (by decide +kernel) rfl (Nat.le_of_ble_eq_true rfl) ?_
  refine bq_aload_n (i := 0) dX5_init_0 rfl ?_
  refine bq_objInit dX5_init_1 ⟨ml_X5_3, ow_1, ow_2⟩ (by decide) (Nat.le_of_ble_eq_true rfl) ?_
  refine bq_aload_n (i := 0) dX5_init_4 rfl ?_
  refine bq_newo (c := 4) (i := 0) dX5_init_5 nw_X5_9 (by decide) (hN _ _ (by decide)) (by show bq_us w + 7 ≤ bp_max; omega) (fun qs => ?_)
  rw [bq_n_ad]
  refine bq_dup dX5_init_8 rfl ?_
  have i3 := i_shop (G := G) (w := bq_n w 4 0 qs (bq_born tyX4) (0, 0) 7) (fun c i hc => bq_nNV (hN c i hc.2) (fun z => hc.1 z.1)) bq_nVr (by show bq_us w + 7 + 400 ≤ bp_max; omega)
  rw [bq_n_ad] at i3
  refine bq_callIp dX5_init_9 ml_X5_11 i3 (by decide) (by decide) (Nat.le_of_ble_eq_true rfl) rfl (fun v_31 w_31 p_31 => ?_)
  obtain ⟨rfl, q0, q1, q3, qa, q2, q4, rfl⟩ := p_31
  refine bq_putfi (c := 5) (i := 0) (k := 0) rfl dX5_init_12 fl_X5_12 (Or.inr ⟨rfl, rfl⟩) (by
    try unfold b_iB
    try unfold b_iH
    try unfold b_iH2
    try unfold b_iH1
    try unfold b_iS
    try unfold bq_gd
    repeat (first | assumption | (with_reducible exact bq_nVr) | (with_reducible refine bq_fVl ?_) | (with_reducible refine bq_nVl ?_))) (by decide) rfl rfl ?_
  exact bq_vret dX5_init_15 rfl (bq_val_i ⟨rfl, qs, q0, q1, q3, qa, q2, q4, rfl⟩)

