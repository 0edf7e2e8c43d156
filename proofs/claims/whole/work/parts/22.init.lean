/-! ===== constructors ===== -/
section BQC
variable {G : bp_X} {M : bp_M} {d pc : Nat} {lv : List (Nat × Value)} {st : List Value} {w : bq_O} {Φ : bp_O → bq_O → Prop}
/-- the same objects, told otherwise -/
theorem bq_conv {v2 : Nat → Nat → Nat → Value} {ls2 : Nat → List Nat} (hv : ∀ c i k, bq_V w c i → c < 7 → k < 32 → bq_v w c i k = v2 c i k) (ha : ∀ i k, bq_V w 8 i → k < (bq_at w i).2 → bq_v w 8 i k = v2 8 i k) (hl : ∀ n, bq_V w 7 n → bq_ls w n = ls2 n)
    (kk : bq_W G M d pc lv st (w.1, w.2.1, v2, ls2, w.2.2.2.2) Φ) : bq_W G M d pc lv st w Φ := by
  intro h hH
  refine kk h ?_
  obtain ⟨cp, h1, h2, h3, h4⟩ := hH
  refine ⟨cp, fun c i hV hc => ⟨(h1 c i hV hc).1, fun k hk => ((h1 c i hV hc).2 k hk).trans (hv c i k hV hc hk)⟩, fun n hV => ?_, fun n hV => ⟨(h3 n hV).1, fun j hj => ((h3 n hV).2 j hj).trans (ha n j hV hj)⟩, h4⟩
  have := h2 n hV
  rw [hl n hV] at this
  exact this
theorem bq_H.newa {h : bp_H} (hH : bq_H G h w) {i q ti N : Nat} {f g : Nat → Value} (hi : ¬ bq_V w 8 i) (f1 : (h.1 q).1 ≠ 1) (f2 : (h.1 q).1 ≠ 2) (hg : ∀ j : Nat, j < N → g (4096 + j) = f j) (hm : bq_us w + (1 + N) ≤ bp_max) :
    bq_H G (bp_new h q (2, ti, N, 0) g (1 + N)) (bq_n w 8 i q f (ti, N) (1 + N)) := by
  obtain ⟨cp, o1, o2, o3, o4, o5⟩ := hH.old (f := f) (t := (ti, N)) (n := 1 + N) (k := (2, ti, N, 0)) (g := g) (m := 1 + N) hi f1 f2
  refine ⟨cp, fun c' i' hV hc' => ?_, fun l hV => ?_, fun a hV => ?_, o4, ?_, hm⟩
  · rcases hV with hV | ⟨rfl, rfl⟩
    · exact o1 c' i' hV hc'
    · omega
  · rcases hV with hV | ⟨e, -⟩
    · have e7 : bq_ls (bq_n w 8 i q f (ti, N) (1 + N)) l = bq_ls w l := by
        show (if (8 : Nat) = 7 ∧ l = i then [] else bq_ls w l) = _
        rw [if_neg (by omega)]
      rw [e7]
      obtain ⟨g1, g2, g3⟩ := o2 l hV
      exact ⟨g1, g2, fun x hx => Or.inl (g3 x hx)⟩
    · omega
  · by_cases e : a = i
    · subst e
      rw [bq_n_ad, bq_n_v]
      have e8 : bq_at (bq_n w 8 a q f (ti, N) (1 + N)) a = (ti, N) := by
        show (if (8 : Nat) = 8 ∧ a = a then (ti, N) else bq_at w a) = _
        rw [if_pos ⟨rfl, rfl⟩]
      rw [e8]
      exact ⟨bp_new_at, fun j hj => bp_new_v.trans (hg j hj)⟩
    · have e8 : bq_at (bq_n w 8 i q f (ti, N) (1 + N)) a = bq_at w a := by
        show (if (8 : Nat) = 8 ∧ a = i then (ti, N) else bq_at w a) = _
        rw [if_neg (fun z => e z.2)]
      rw [e8]
      rcases hV with hV | ⟨-, e9⟩
      · exact o3 a hV
      · exact absurd e9 e
  · show h.2.2 + (1 + N) + _ ≤ bq_us w + (1 + N)
    omega
/-- five arrays: four rows of four -/
def bq_gd (w : bq_O) (q : Nat) : bq_O := bq_n (bq_n (bq_n (bq_n (bq_n w 8 0 q (fun j => .ref (q + 1 + j)) (4, 4) 5) 8 1 (q + 1) (fun _ => .int 0) (0, 4) 5) 8 2 (q + 1 + 1) (fun _ => .int 0) (0, 4) 5) 8 3 (q + 1 + 2) (fun _ => .int 0) (0, 4) 5) 8 4 (q + 1 + 3) (fun _ => .int 0) (0, 4) 5
theorem bq_mna {idx : Nat} (hd : decode (bp_c M) pc = .ok (.multianewarray idx 2, 4)) (hw : Cond.classLink (bp_own_ M) idx "[[I" ∈ bp_UW) (hi : ∀ i, i < 5 → ¬ bq_V w 8 i) (hm : bq_us w + 25 ≤ bp_max)
    (kk : ∀ q : Nat, bq_W G M d (pc + 4) lv (.ref q :: st) (bq_gd w q) Φ) : bq_W G M d pc lv (.int (nI 4) :: .int (nI 4) :: st) w Φ := by
  intro h hH
  have hu : h.2.2 ≤ bq_us w := by obtain ⟨cp, -, -, -, -, h5, -⟩ := hH; omega
  refine bp_mna hd hw (by omega) (fun q a1 a2 a3 => ?_)
  refine kk q (bp_gd h q) ?_
  have up : ∀ (g : bp_H) (q n : Nat) (k : bp_K) (f : Nat → Value), q ≠ n → (bp_new g n k f 5).1 q = g.1 q := fun g q n k f hq => if_neg hq
  have nv : ∀ (u : bq_O) (i j p : Nat) (f : Nat → Value) (t : Nat × Nat), ¬ bq_V u 8 i → i ≠ j → ¬ bq_V (bq_n u 8 j p f t 5) 8 i := fun u i j p f t h1 h2 z => by
    rcases z with z | ⟨-, z⟩
    · exact h1 z
    · exact h2 z
  have H0 := hH.newa (i := 0) (q := q) (ti := 4) (N := 4) (f := fun j => .ref (q + 1 + j)) (g := fun k => .ref (q + 1 + (k - 4096))) (hi 0 (by omega)) a1 a2 (fun j _ => by rw [Nat.add_sub_cancel_left]) (by omega)
  have H1 := H0.newa (i := 1) (q := q + 1) (ti := 0) (N := 4) (f := fun _ => .int 0) (g := fun _ => .int 0) (nv _ _ _ _ _ _ (hi 1 (by omega)) (by omega)) (by rw [up _ _ _ _ _ (by omega)]; exact (a3 0 (by omega)).1) (by rw [up _ _ _ _ _ (by omega)]; exact (a3 0 (by omega)).2) (fun _ _ => rfl) (by show bq_us w + (1 + 4) + (1 + 4) ≤ _; omega)
  have H2 := H1.newa (i := 2) (q := q + 1 + 1) (ti := 0) (N := 4) (f := fun _ => .int 0) (g := fun _ => .int 0) (nv _ _ _ _ _ _ (nv _ _ _ _ _ _ (hi 2 (by omega)) (by omega)) (by omega)) (by rw [up _ _ _ _ _ (by omega), up _ _ _ _ _ (by omega)]; exact (a3 1 (by omega)).1) (by rw [up _ _ _ _ _ (by omega), up _ _ _ _ _ (by omega)]; exact (a3 1 (by omega)).2) (fun _ _ => rfl) (by show bq_us w + (1 + 4) + (1 + 4) + (1 + 4) ≤ _; omega)
  have H3 := H2.newa (i := 3) (q := q + 1 + 2) (ti := 0) (N := 4) (f := fun _ => .int 0) (g := fun _ => .int 0) (nv _ _ _ _ _ _ (nv _ _ _ _ _ _ (nv _ _ _ _ _ _ (hi 3 (by omega)) (by omega)) (by omega)) (by omega)) (by rw [up _ _ _ _ _ (by omega), up _ _ _ _ _ (by omega), up _ _ _ _ _ (by omega)]; exact (a3 2 (by omega)).1) (by rw [up _ _ _ _ _ (by omega), up _ _ _ _ _ (by omega), up _ _ _ _ _ (by omega)]; exact (a3 2 (by omega)).2) (fun _ _ => rfl) (by show bq_us w + (1 + 4) + (1 + 4) + (1 + 4) + (1 + 4) ≤ _; omega)
  exact H3.newa (i := 4) (q := q + 1 + 3) (ti := 0) (N := 4) (f := fun _ => .int 0) (g := fun _ => .int 0) (nv _ _ _ _ _ _ (nv _ _ _ _ _ _ (nv _ _ _ _ _ _ (nv _ _ _ _ _ _ (hi 4 (by omega)) (by omega)) (by omega)) (by omega)) (by omega)) (by rw [up _ _ _ _ _ (by omega), up _ _ _ _ _ (by omega), up _ _ _ _ _ (by omega), up _ _ _ _ _ (by omega)]; exact (a3 3 (by omega)).1) (by rw [up _ _ _ _ _ (by omega), up _ _ _ _ _ (by omega), up _ _ _ _ _ (by omega), up _ _ _ _ _ (by omega)]; exact (a3 3 (by omega)).2) (fun _ _ => rfl) (by show bq_us w + (1 + 4) + (1 + 4) + (1 + 4) + (1 + 4) + (1 + 4) ≤ _; omega)
/-- a call of a constructor -/
theorem bq_callIp {M' : bp_M} {idx d' b : Nat} {As st0 : List Value} {P : Option Value → bq_O → Prop} (hd : decode (bp_c M) pc = .ok (.invokespecial idx, 3)) (hm : bp_MI (bp_own_ M) idx M' As.length)
    (hM : bq_S G M' d' (.ref b :: As) w (bq_val P)) (hdd : d' + 1 ≤ d) (hn : bp_n M' ≤ 60) (hst : (st.map fun v => v.category).sum ≤ 8) (hst0 : st0 = As.reverse ++ .ref b :: st) (kk : ∀ (v : Option Value) (w' : bq_O), P v w' → bq_W G M d (pc + 3) lv (v.toList ++ st) w' Φ) : bq_W G M d pc lv st0 w Φ :=
  bq_callI hd hm hM hdd hn hst hst0 (fun v h' hp => by obtain ⟨u, e, hp⟩ := hp; cases e; exact kk _ _ hp) (fun E h' hp => by obtain ⟨u, e, hp⟩ := hp; cases e)
/-- a final field, in the constructor -/
theorem bq_putfi {idx c i k b : Nat} {ty : FieldType} {fin : Option Bool} {x : Value} (hb : b = bq_ad w c i) (hd : decode (bp_c M) pc = .ok (.putfield idx, 3)) (fl : bp_FL (bp_own_ M) idx c k ty fin) (hfin : fin = some false ∨ (fin = some true ∧ (bp_y M).name = "<init>")) (hV : bq_V w c i) (hck : c < 7 ∧ k < 32) (hn : narrow ty x = x) (hf : fits ty x = true)
    (kk : bq_W G M d (pc + 3) lv st (bq_f w c i k x) Φ) : bq_W G M d pc lv (x :: .ref b :: st) w Φ := by
  subst hb
  exact bq_putf hd fl hfin hV hck hn hf kk
end BQC
