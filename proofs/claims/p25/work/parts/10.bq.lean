/-! ===== objects by class and number ===== -/
/-- which (class, number) stand; their addresses; their fields (arrays: class 8, lists: class 7); the lists' elements by number; the arrays' types and lengths; room -/
abbrev bq_O : Type := (Nat → Nat → Prop) × (Nat → Nat → Nat) × (Nat → Nat → Nat → Value) × (Nat → List Nat) × (Nat → Nat × Nat) × Nat
abbrev bq_V (w : bq_O) : Nat → Nat → Prop := w.1
abbrev bq_ad (w : bq_O) : Nat → Nat → Nat := w.2.1
abbrev bq_v (w : bq_O) : Nat → Nat → Nat → Value := w.2.2.1
abbrev bq_ls (w : bq_O) : Nat → List Nat := w.2.2.2.1
abbrev bq_at (w : bq_O) : Nat → Nat × Nat := w.2.2.2.2.1
abbrev bq_us (w : bq_O) : Nat := w.2.2.2.2.2
/-- the class of a list's elements -/
def bq_lc (n : Nat) : Nat := if n = 0 then 1 else if n = 1 then 0 else 2
def bq_sum (f : Nat → Nat) : Nat → Nat
  | 0 => 0
  | n + 1 => bq_sum f n + f n
theorem bq_sum_le {f : Nat → Nat} {n N : Nat} (h : n < N) : f n ≤ bq_sum f N := by
  induction N with
  | zero => omega
  | succ N ih =>
    unfold bq_sum
    by_cases e : n = N
    · subst e; omega
    · have := ih (by omega); omega
theorem bq_sum_up {f g : Nat → Nat} {n N : Nat} (h : n < N) (e : ∀ m, m ≠ n → g m = f m) : bq_sum g N + f n = bq_sum f N + g n := by
  induction N with
  | zero => omega
  | succ N ih =>
    unfold bq_sum
    by_cases c : n = N
    · subst c
      have key : ∀ K, K ≤ n → bq_sum g K = bq_sum f K := by
        intro K
        induction K with
        | zero => intro _; rfl
        | succ K ihK => intro hK; unfold bq_sum; rw [ihK (by omega), e K (by omega)]
      rw [key n (Nat.le_refl _)]
      omega
    · have := ih (by omega)
      rw [e N (Ne.symm c)]
      omega
/-- the heap is as Ω says -/
def bq_H (G : bp_X) (h : bp_H) (w : bq_O) : Prop := ∃ cp : Nat → Nat,
  (∀ c i : Nat, bq_V w c i → c < 7 → bp_ob h (bq_ad w c i) c ∧ ∀ k : Nat, k < 32 → h.2.1 (bq_ad w c i) (32 * c + k) = bq_v w c i k) ∧
  (∀ n : Nat, bq_V w 7 n → n < 16 ∧ bp_L G h (bq_ad w 7 n) ((bq_ls w n).map (bq_ad w (bq_lc n))) (cp n) ∧ ∀ x ∈ bq_ls w n, bq_V w (bq_lc n) x) ∧
  (∀ n : Nat, bq_V w 8 n → h.1 (bq_ad w 8 n) = (2, (bq_at w n).1, (bq_at w n).2, 0) ∧ ∀ j : Nat, j < (bq_at w n).2 → h.2.1 (bq_ad w 8 n) (4096 + j) = bq_v w 8 n j) ∧
  (∀ c i j : Nat, c < 9 → bq_V w c i → bq_V w c j → bq_ad w c i = bq_ad w c j → i = j) ∧
  (h.2.2 + bq_sum (fun n => bp_pot (cp n)) 16 ≤ bq_us w ∧ bq_us w ≤ bp_max)
/-- a field or an element -/
def bq_f (w : bq_O) (c i k : Nat) (x : Value) : bq_O := (w.1, w.2.1, fun c' i' k' => if c' = c ∧ i' = i ∧ k' = k then x else w.2.2.1 c' i' k', w.2.2.2)
/-- a list -/
def bq_l (w : bq_O) (n : Nat) (xs : List Nat) : bq_O := (w.1, w.2.1, w.2.2.1, fun m => if m = n then xs else w.2.2.2.1 m, w.2.2.2.2)
/-- room -/
def bq_more (w : bq_O) (n : Nat) : bq_O := (w.1, w.2.1, w.2.2.1, w.2.2.2.1, w.2.2.2.2.1, w.2.2.2.2.2 + n)
/-- something new: class c, number i, at address q, with fields f, of type t if an array, room n -/
def bq_n (w : bq_O) (c i q : Nat) (f : Nat → Value) (t : Nat × Nat) (n : Nat) : bq_O :=
  (fun c' i' => w.1 c' i' ∨ (c' = c ∧ i' = i), fun c' i' => if c' = c ∧ i' = i then q else w.2.1 c' i', fun c' i' => if c' = c ∧ i' = i then f else w.2.2.1 c' i',
    fun m => if c = 7 ∧ m = i then [] else w.2.2.2.1 m, fun m => if c = 8 ∧ m = i then t else w.2.2.2.2.1 m, w.2.2.2.2.2 + n)
theorem bq_H.ob {G : bp_X} {h : bp_H} {w : bq_O} (H : bq_H G h w) {c i : Nat} (hV : bq_V w c i) (hc : c < 7) : bp_ob h (bq_ad w c i) c := by
  obtain ⟨cp, h1, -⟩ := H
  exact (h1 c i hV hc).1
theorem bq_H.k {G : bp_X} {h : bp_H} {w : bq_O} (H : bq_H G h w) {c i : Nat} (hV : bq_V w c i) (hc : c < 7) : (h.1 (bq_ad w c i)).1 = 1 ∧ (h.1 (bq_ad w c i)).2.1 = c := (H.ob hV hc).k
theorem bq_H.val {G : bp_X} {h : bp_H} {w : bq_O} (H : bq_H G h w) {c i k : Nat} (hV : bq_V w c i) (hc : c < 7) (hk : k < 32) : h.2.1 (bq_ad w c i) (32 * c + k) = bq_v w c i k := by
  obtain ⟨cp, h1, -⟩ := H
  exact (h1 c i hV hc).2 k hk
theorem bq_H.L {G : bp_X} {h : bp_H} {w : bq_O} (H : bq_H G h w) {n : Nat} (hV : bq_V w 7 n) : n < 16 ∧ ∃ cp : Nat, bp_L G h (bq_ad w 7 n) ((bq_ls w n).map (bq_ad w (bq_lc n))) cp ∧ h.2.2 + bp_pot cp ≤ bp_max := by
  obtain ⟨cp, h1, h2, h3, h4, h5, h6⟩ := H
  obtain ⟨g1, g2, -⟩ := h2 n hV
  have := bq_sum_le (f := fun n => bp_pot (cp n)) g1
  exact ⟨g1, cp n, g2, by omega⟩
theorem bq_H.arr {G : bp_X} {h : bp_H} {w : bq_O} (H : bq_H G h w) {n ti len : Nat} (hV : bq_V w 8 n) (ht : bq_at w n = (ti, len)) : h.1 (bq_ad w 8 n) = (2, ti, len, 0) ∧ ∀ j : Nat, j < len → h.2.1 (bq_ad w 8 n) (4096 + j) = bq_v w 8 n j := by
  obtain ⟨cp, h1, h2, h3, -⟩ := H
  have g := h3 n hV
  rw [ht] at g
  exact g
/-- behind a field's store -/
theorem bq_H.put {G : bp_X} {h : bp_H} {w : bq_O} (H : bq_H G h w) {c i k : Nat} {x : Value} (hV : bq_V w c i) (hc : c < 7) (hk : k < 32) : bq_H G (bp_set h (bq_ad w c i) (32 * c + k) x) (bq_f w c i k x) := by
  obtain ⟨cp, h1, h2, h3, h4, h5⟩ := H
  have o := (h1 c i hV hc).1
  refine ⟨cp, fun c' i' hV' hc' => ⟨(h1 c' i' hV' hc').1, fun k' hk' => ?_⟩, fun n hn => ⟨(h2 n hn).1, ?_, (h2 n hn).2.2⟩, fun n hn => ⟨(h3 n hn).1, fun j hj => ?_⟩, h4, h5⟩
  · show (if bq_ad w c' i' = bq_ad w c i ∧ 32 * c' + k' = 32 * c + k then x else h.2.1 (bq_ad w c' i') (32 * c' + k')) = (if c' = c ∧ i' = i ∧ k' = k then x else bq_v w c' i' k')
    by_cases e : c' = c ∧ i' = i ∧ k' = k
    · obtain ⟨rfl, rfl, rfl⟩ := e
      simp
    · rw [if_neg e, if_neg ?_]
      · exact (h1 c' i' hV' hc').2 k' hk'
      · rintro ⟨e1, e2⟩
        have e3 : c' = c := by
          have o' := (h1 c' i' hV' hc').1
          by_cases e9 : c' = c
          · exact e9
          · exact absurd e1 (o'.ne o e9)
        subst e3
        exact e ⟨rfl, h4 c' i' i (by omega) hV' hV e1, by omega⟩
  · by_cases c7 : c = 7
    · omega
    · exact (h2 n hn).2.1.set o c7
  · have hne : bq_ad w 8 n ≠ bq_ad w c i := by
      intro z
      have g := (h3 n hn).1
      rw [z] at g
      unfold bp_ob at o
      rw [o] at g
      cases g
    refine (show (bp_set h (bq_ad w c i) (32 * c + k) x).2.1 (bq_ad w 8 n) (4096 + j) = h.2.1 (bq_ad w 8 n) (4096 + j) by simp [bp_set, hne]).trans ?_
    have e8 : ¬ ((8 : Nat) = c ∧ n = i ∧ j = k) := by omega
    show _ = (if (8 : Nat) = c ∧ n = i ∧ j = k then x else bq_v w 8 n j)
    rw [if_neg e8]
    exact (h3 n hn).2 j hj
/-- behind an element's store -/
theorem bq_H.sta {G : bp_X} {h : bp_H} {w : bq_O} (H : bq_H G h w) {n ti len j : Nat} {x : Value} (hV : bq_V w 8 n) (ht : bq_at w n = (ti, len)) (hj : j < len) : bq_H G (bp_set h (bq_ad w 8 n) (4096 + j) x) (bq_f w 8 n j x) := by
  obtain ⟨cp, h1, h2, h3, h4, h5⟩ := H
  have o := (h3 n hV).1
  refine ⟨cp, fun c' i' hV' hc' => ⟨(h1 c' i' hV' hc').1, fun k' hk' => ?_⟩, fun m hm => ⟨(h2 m hm).1, ?_, (h2 m hm).2.2⟩, fun m hm => ⟨(h3 m hm).1, fun j' hj' => ?_⟩, h4, h5⟩
  · have e8 : ¬ (c' = 8 ∧ i' = n ∧ k' = j) := by omega
    show _ = (if c' = 8 ∧ i' = n ∧ k' = j then x else bq_v w c' i' k')
    rw [if_neg e8]
    have hne : bq_ad w c' i' ≠ bq_ad w 8 n := by
      intro z
      have g := (h1 c' i' hV' hc').1
      unfold bp_ob at g
      rw [z, o] at g
      cases g
    refine (show (bp_set h (bq_ad w 8 n) (4096 + j) x).2.1 (bq_ad w c' i') (32 * c' + k') = h.2.1 (bq_ad w c' i') (32 * c' + k') by simp [bp_set, hne]).trans ?_
    exact (h1 c' i' hV' hc').2 k' hk'
  · exact (h2 m hm).2.1.seta o
  · show (if bq_ad w 8 m = bq_ad w 8 n ∧ 4096 + j' = 4096 + j then x else h.2.1 (bq_ad w 8 m) (4096 + j')) = (if (8 : Nat) = 8 ∧ m = n ∧ j' = j then x else bq_v w 8 m j')
    by_cases e : m = n ∧ j' = j
    · obtain ⟨rfl, rfl⟩ := e
      simp
    · rw [if_neg (fun z => e ⟨h4 8 m n (by omega) hm hV z.1, by omega⟩), if_neg (fun z => e z.2)]
      exact (h3 m hm).2 j' hj'
/-- behind a list's change -/
theorem bq_H.list {G : bp_X} {h : bp_H} {w : bq_O} (H : bq_H G h w) {n : Nat} (hV : bq_V w 7 n) :
    ∃ cp0 : Nat, n < 16 ∧ bp_L G h (bq_ad w 7 n) ((bq_ls w n).map (bq_ad w (bq_lc n))) cp0 ∧ h.2.2 + bp_pot cp0 ≤ bp_max ∧ (∀ x ∈ bq_ls w n, bq_V w (bq_lc n) x) ∧
      ∀ (h' : bp_H) (cp' : Nat) (xs : List Nat), (∀ x ∈ xs, bq_V w (bq_lc n) x) → bp_Fr (bq_ad w 7 n) h h' → bp_L G h' (bq_ad w 7 n) (xs.map (bq_ad w (bq_lc n))) cp' → h'.2.2 + bp_pot cp' ≤ h.2.2 + bp_pot cp0 → bq_H G h' (bq_l w n xs) := by
  obtain ⟨cp, h1, h2, h3, h4, h5, h6⟩ := H
  obtain ⟨g1, g2, gx⟩ := h2 n hV
  have hle := bq_sum_le (f := fun n => bp_pot (cp n)) g1
  refine ⟨cp n, g1, g2, by omega, gx, fun h' cp' xs X F L U => ?_⟩
  refine ⟨fun m => if m = n then cp' else cp m, fun c' i' hV' hc' => ⟨F.ob (h1 c' i' hV' hc').1, fun k' hk' => ?_⟩, fun m hm => ?_, fun m hm => ?_, h4, ?_, h6⟩
  · exact (F.get (h1 c' i' hV' hc').1 ((h1 c' i' hV' hc').1.ne g2.1 (by omega)) _).trans ((h1 c' i' hV' hc').2 k' hk')
  · refine ⟨(h2 m hm).1, ?_⟩
    show bp_L G h' (bq_ad w 7 m) ((if m = n then xs else bq_ls w m).map (bq_ad w (bq_lc m))) (if m = n then cp' else cp m) ∧ ∀ x ∈ (if m = n then xs else bq_ls w m), bq_V w (bq_lc m) x
    by_cases e : m = n
    · subst e
      rw [if_pos rfl, if_pos rfl]
      exact ⟨L, X⟩
    · rw [if_neg e, if_neg e]
      exact ⟨F.L g2.1 (h2 m hm).2.1 (fun z => e (h4 7 m n (by omega) hm hV z)), (h2 m hm).2.2⟩
  · obtain ⟨k1, k2⟩ := F.arr (h3 m hm).1 g2.1 (by omega)
    exact ⟨k1, fun j hj => (k2 _).trans ((h3 m hm).2 j hj)⟩
  · have e9 := bq_sum_up (f := fun m => bp_pot (cp m)) (g := fun m => bp_pot (if m = n then cp' else cp m)) g1 (fun m hm => by simp [hm])
    simp only [if_true] at e9
    show h'.2.2 + bq_sum (fun m => bp_pot (if m = n then cp' else cp m)) 16 ≤ w.2.2.2.2.2
    have h5' : h.2.2 + bq_sum (fun n => bp_pot (cp n)) 16 ≤ w.2.2.2.2.2 := h5
    omega
theorem bq_H.more {G : bp_X} {h : bp_H} {w : bq_O} {n : Nat} (H : bq_H G h w) (hm : bq_us w + n ≤ bp_max) : bq_H G (bp_more h n) (bq_more w n) := by
  obtain ⟨cp, h1, h2, h3, h4, h5, h6⟩ := H
  exact ⟨cp, h1, h2, h3, h4, by show h.2.2 + n + _ ≤ w.2.2.2.2.2 + n; have h5' : h.2.2 + bq_sum (fun n => bp_pot (cp n)) 16 ≤ w.2.2.2.2.2 := h5; omega, hm⟩

def bq_Φ (G : bp_X) (Φ : bp_O → bq_O → Prop) : bp_O → bp_H → Prop := fun o h' => ∃ w' : bq_O, bq_H G h' w' ∧ Φ o w'
/-- from here the method ends as Φ says, of objects -/
def bq_W (G : bp_X) (M : bp_M) (d : Nat) (pc : Nat) (lv : List (Nat × Value)) (st : List Value) (w : bq_O) (Φ : bp_O → bq_O → Prop) : Prop := ∀ h : bp_H, bq_H G h w → bp_W G M d pc lv st h (bq_Φ G Φ)
def bq_S (G : bp_X) (M : bp_M) (d : Nat) (av : List Value) (w : bq_O) (Φ : bp_O → bq_O → Prop) : Prop := ∀ h : bp_H, bq_H G h w → bp_S G M d av h (bq_Φ G Φ)
def bq_Wx (G : bp_X) (M : bp_M) (d : Nat) (pc : Nat) (lv : List (Nat × Value)) (st : List Value) (w : bq_O) (E : String) (Φ : bp_O → bq_O → Prop) : Prop := ∀ h : bp_H, bq_H G h w → bp_Wx G M d pc lv st h E (bq_Φ G Φ)
section BQR
variable {G : bp_X} {M : bp_M} {d pc : Nat} {lv : List (Nat × Value)} {st : List Value} {w : bq_O} {Φ : bp_O → bq_O → Prop}
theorem bq_mono {Φ' : bp_O → bq_O → Prop} (hΦ : ∀ o w', Φ' o w' → Φ o w') (k : bq_W G M d pc lv st w Φ') : bq_W G M d pc lv st w Φ := fun h hH => bp_mono (fun o h' hp => by obtain ⟨w', h1, h2⟩ := hp; exact ⟨w', h1, hΦ _ _ h2⟩) (k h hH)
theorem bq_lvs {lv' : List (Nat × Value)} (hl : bp_sub lv lv') (k : bq_W G M d pc lv' st w Φ) : bq_W G M d pc lv st w Φ := fun h hH => bp_lvs hl (k h hH)
theorem bq_eqw {w2 : bq_O} (e : w = w2) (k : bq_W G M d pc lv st w2 Φ) : bq_W G M d pc lv st w Φ := by subst e; exact k
theorem bq_eqs {st2 : List Value} (e : st = st2) (k : bq_W G M d pc lv st2 w Φ) : bq_W G M d pc lv st w Φ := by subst e; exact k
theorem bq_ofW {av : List Value} (hp : plainName (bp_y M).cls = true) (ho : bp_own_ M = (bp_y M).cls) (hlen : (lg_sl av).length ≤ bp_n M) (k : bq_W G M d 0 (lv_args 0 av) [] w Φ) : bq_S G M d av w Φ := fun h hH => bp_ofW hp ho hlen (k h hH)
theorem bq_iconst {n : Int} {v : Int32} (hd : decode (bp_c M) pc = .ok (.iconst n, 1)) (hv : Int32.ofInt n = v) (k : bq_W G M d (pc + 1) lv (.int v :: st) w Φ) : bq_W G M d pc lv (st) w Φ := fun h hH => bp_iconst hd hv (k h hH)
theorem bq_bipush {n : Int} {v : Int32} (hd : decode (bp_c M) pc = .ok (.bipush n, 2)) (hv : (Int8.ofInt n).toInt32 = v) (k : bq_W G M d (pc + 2) lv (.int v :: st) w Φ) : bq_W G M d pc lv (st) w Φ := fun h hH => bp_bipush hd hv (k h hH)
theorem bq_sipush {n : Int} {v : Int32} (hd : decode (bp_c M) pc = .ok (.sipush n, 3)) (hv : (Int16.ofInt n).toInt32 = v) (k : bq_W G M d (pc + 3) lv (.int v :: st) w Φ) : bq_W G M d pc lv (st) w Φ := fun h hH => bp_sipush hd hv (k h hH)
theorem bq_lconst {n : Fin 2} {v : Int64} (hd : decode (bp_c M) pc = .ok (.lconst n, 1)) (hv : Int64.ofNat (n : Nat) = v) (k : bq_W G M d (pc + 1) lv (.long v :: st) w Φ) : bq_W G M d pc lv (st) w Φ := fun h hH => bp_lconst hd hv (k h hH)
theorem bq_null (hd : decode (bp_c M) pc = .ok (.aconst_null, 1)) (k : bq_W G M d (pc + 1) lv (.null :: st) w Φ) : bq_W G M d pc lv (st) w Φ := fun h hH => bp_null hd (k h hH)
theorem bq_iload_n {i : Fin 4} {x : Int32} (hd : decode (bp_c M) pc = .ok (.iload_n i, 1)) (hk : lv.lookup (i : Nat) = some (.int x)) (k : bq_W G M d (pc + 1) lv (.int x :: st) w Φ) : bq_W G M d pc lv (st) w Φ := fun h hH => bp_iload_n hd hk (k h hH)
theorem bq_iload {i : Nat} {x : Int32} (hd : decode (bp_c M) pc = .ok (.iload i, 2)) (hk : lv.lookup i = some (.int x)) (k : bq_W G M d (pc + 2) lv (.int x :: st) w Φ) : bq_W G M d pc lv (st) w Φ := fun h hH => bp_iload hd hk (k h hH)
theorem bq_aload_n {i : Fin 4} {x : Nat} (hd : decode (bp_c M) pc = .ok (.aload_n i, 1)) (hk : lv.lookup (i : Nat) = some (.ref x)) (k : bq_W G M d (pc + 1) lv (.ref x :: st) w Φ) : bq_W G M d pc lv (st) w Φ := fun h hH => bp_aload_n hd hk (k h hH)
theorem bq_aload {i : Nat} {x : Nat} (hd : decode (bp_c M) pc = .ok (.aload i, 2)) (hk : lv.lookup i = some (.ref x)) (k : bq_W G M d (pc + 2) lv (.ref x :: st) w Φ) : bq_W G M d pc lv (st) w Φ := fun h hH => bp_aload hd hk (k h hH)
theorem bq_aload_nN {i : Fin 4} (hd : decode (bp_c M) pc = .ok (.aload_n i, 1)) (hk : lv.lookup (i : Nat) = some .null) (k : bq_W G M d (pc + 1) lv (.null :: st) w Φ) : bq_W G M d pc lv (st) w Φ := fun h hH => bp_aload_nN hd hk (k h hH)
theorem bq_aloadN {i : Nat} (hd : decode (bp_c M) pc = .ok (.aload i, 2)) (hk : lv.lookup i = some .null) (k : bq_W G M d (pc + 2) lv (.null :: st) w Φ) : bq_W G M d pc lv (st) w Φ := fun h hH => bp_aloadN hd hk (k h hH)
theorem bq_aload_nq {i : Fin 4} {r : Option Nat} (hd : decode (bp_c M) pc = .ok (.aload_n i, 1)) (hk : lv.lookup (i : Nat) = some (va_rf r)) (k : bq_W G M d (pc + 1) lv (va_rf r :: st) w Φ) : bq_W G M d pc lv st w Φ := fun h hH => bp_aload_nq hd hk (k h hH)
theorem bq_aloadq {i : Nat} {r : Option Nat} (hd : decode (bp_c M) pc = .ok (.aload i, 2)) (hk : lv.lookup i = some (va_rf r)) (k : bq_W G M d (pc + 2) lv (va_rf r :: st) w Φ) : bq_W G M d pc lv st w Φ := fun h hH => bp_aloadq hd hk (k h hH)
theorem bq_istore_n {i : Fin 4} {x : Int32} (hd : decode (bp_c M) pc = .ok (.istore_n i, 1)) (hi : (i : Nat) < bp_n M) (k : bq_W G M d (pc + 1) (bp_st lv (i : Nat) (.int x)) st w Φ) : bq_W G M d pc lv (.int x :: st) w Φ := fun h hH => bp_istore_n hd hi (k h hH)
theorem bq_istore {i : Nat} {x : Int32} (hd : decode (bp_c M) pc = .ok (.istore i, 2)) (hi : i < bp_n M) (k : bq_W G M d (pc + 2) (bp_st lv i (.int x)) st w Φ) : bq_W G M d pc lv (.int x :: st) w Φ := fun h hH => bp_istore hd hi (k h hH)
theorem bq_astore_n {i : Fin 4} {x : Nat} (hd : decode (bp_c M) pc = .ok (.astore_n i, 1)) (hi : (i : Nat) < bp_n M) (k : bq_W G M d (pc + 1) (bp_st lv (i : Nat) (.ref x)) st w Φ) : bq_W G M d pc lv (.ref x :: st) w Φ := fun h hH => bp_astore_n hd hi (k h hH)
theorem bq_astore {i : Nat} {x : Nat} (hd : decode (bp_c M) pc = .ok (.astore i, 2)) (hi : i < bp_n M) (k : bq_W G M d (pc + 2) (bp_st lv i (.ref x)) st w Φ) : bq_W G M d pc lv (.ref x :: st) w Φ := fun h hH => bp_astore hd hi (k h hH)
theorem bq_astore_nN {i : Fin 4} (hd : decode (bp_c M) pc = .ok (.astore_n i, 1)) (hi : (i : Nat) < bp_n M) (k : bq_W G M d (pc + 1) (bp_st lv (i : Nat) .null) st w Φ) : bq_W G M d pc lv (.null :: st) w Φ := fun h hH => bp_astore_nN hd hi (k h hH)
theorem bq_astoreN {i : Nat} (hd : decode (bp_c M) pc = .ok (.astore i, 2)) (hi : i < bp_n M) (k : bq_W G M d (pc + 2) (bp_st lv i .null) st w Φ) : bq_W G M d pc lv (.null :: st) w Φ := fun h hH => bp_astoreN hd hi (k h hH)
theorem bq_astore_nq {i : Fin 4} {r : Option Nat} (hd : decode (bp_c M) pc = .ok (.astore_n i, 1)) (hi : (i : Nat) < bp_n M) (k : bq_W G M d (pc + 1) (bp_st lv (i : Nat) (va_rf r)) st w Φ) : bq_W G M d pc lv (va_rf r :: st) w Φ := fun h hH => bp_astore_nq hd hi (k h hH)
theorem bq_astoreq {i : Nat} {r : Option Nat} (hd : decode (bp_c M) pc = .ok (.astore i, 2)) (hi : i < bp_n M) (k : bq_W G M d (pc + 2) (bp_st lv i (va_rf r)) st w Φ) : bq_W G M d pc lv (va_rf r :: st) w Φ := fun h hH => bp_astoreq hd hi (k h hH)
theorem bq_iinc {i : Nat} {n : Int} {x v : Int32} (hd : decode (bp_c M) pc = .ok (.iinc i n, 3)) (hk : lv.lookup i = some (.int x)) (hi : i < bp_n M) (hv : x + Int32.ofInt n = v) (k : bq_W G M d (pc + 3) (bp_st lv i (.int v)) st w Φ) : bq_W G M d pc lv st w Φ := fun h hH => bp_iinc hd hk hi hv (k h hH)
theorem bq_iadd {x y : Int32} (hd : decode (bp_c M) pc = .ok (.iadd, 1)) (k : bq_W G M d (pc + 1) lv (.int (x + y) :: st) w Φ) : bq_W G M d pc lv (.int y :: .int x :: st) w Φ := fun h hH => bp_iadd hd (k h hH)
theorem bq_isub {x y : Int32} (hd : decode (bp_c M) pc = .ok (.isub, 1)) (k : bq_W G M d (pc + 1) lv (.int (x - y) :: st) w Φ) : bq_W G M d pc lv (.int y :: .int x :: st) w Φ := fun h hH => bp_isub hd (k h hH)
theorem bq_imul {x y : Int32} (hd : decode (bp_c M) pc = .ok (.imul, 1)) (k : bq_W G M d (pc + 1) lv (.int (x * y) :: st) w Φ) : bq_W G M d pc lv (.int y :: .int x :: st) w Φ := fun h hH => bp_imul hd (k h hH)
theorem bq_iand {x y : Int32} (hd : decode (bp_c M) pc = .ok (.iand, 1)) (k : bq_W G M d (pc + 1) lv (.int (x &&& y) :: st) w Φ) : bq_W G M d pc lv (.int y :: .int x :: st) w Φ := fun h hH => bp_iand hd (k h hH)
theorem bq_ior {x y : Int32} (hd : decode (bp_c M) pc = .ok (.ior, 1)) (k : bq_W G M d (pc + 1) lv (.int (x ||| y) :: st) w Φ) : bq_W G M d pc lv (.int y :: .int x :: st) w Φ := fun h hH => bp_ior hd (k h hH)
theorem bq_ixor {x y : Int32} (hd : decode (bp_c M) pc = .ok (.ixor, 1)) (k : bq_W G M d (pc + 1) lv (.int (x ^^^ y) :: st) w Φ) : bq_W G M d pc lv (.int y :: .int x :: st) w Φ := fun h hH => bp_ixor hd (k h hH)
theorem bq_ishl {x y : Int32} (hd : decode (bp_c M) pc = .ok (.ishl, 1)) (k : bq_W G M d (pc + 1) lv (.int (x <<< (y &&& 31)) :: st) w Φ) : bq_W G M d pc lv (.int y :: .int x :: st) w Φ := fun h hH => bp_ishl hd (k h hH)
theorem bq_ishr {x y : Int32} (hd : decode (bp_c M) pc = .ok (.ishr, 1)) (k : bq_W G M d (pc + 1) lv (.int (x >>> (y &&& 31)) :: st) w Φ) : bq_W G M d pc lv (.int y :: .int x :: st) w Φ := fun h hH => bp_ishr hd (k h hH)
theorem bq_idiv {x y : Int32} (hd : decode (bp_c M) pc = .ok (.idiv, 1)) (hy : ¬ y = 0) (k : bq_W G M d (pc + 1) lv (.int (x / y) :: st) w Φ) : bq_W G M d pc lv (.int y :: .int x :: st) w Φ := fun h hH => bp_idiv hd hy (k h hH)
theorem bq_irem {x y : Int32} (hd : decode (bp_c M) pc = .ok (.irem, 1)) (hy : ¬ y = 0) (k : bq_W G M d (pc + 1) lv (.int (x - x / y * y) :: st) w Φ) : bq_W G M d pc lv (.int y :: .int x :: st) w Φ := fun h hH => bp_irem hd hy (k h hH)
theorem bq_ineg {x : Int32} (hd : decode (bp_c M) pc = .ok (.ineg, 1)) (k : bq_W G M d (pc + 1) lv (.int (-x) :: st) w Φ) : bq_W G M d pc lv (.int x :: st) w Φ := fun h hH => bp_ineg hd (k h hH)
theorem bq_iushr {x y v : Int32} (hd : decode (bp_c M) pc = .ok (.iushr, 1)) (hv : (x.toUInt32 >>> (y.toUInt32 &&& Int32.toUInt32 31)).toInt32 = v) (k : bq_W G M d (pc + 1) lv (.int v :: st) w Φ) : bq_W G M d pc lv (.int y :: .int x :: st) w Φ := fun h hH => bp_iushr hd hv (k h hH)
theorem bq_i2l {x : Int32} (hd : decode (bp_c M) pc = .ok (.i2l, 1)) (k : bq_W G M d (pc + 1) lv (.long x.toInt64 :: st) w Φ) : bq_W G M d pc lv (.int x :: st) w Φ := fun h hH => bp_i2l hd (k h hH)
theorem bq_lcmp {x y : Int64} (hd : decode (bp_c M) pc = .ok (.lcmp, 1)) (k : bq_W G M d (pc + 1) lv (.int (lg_cmp x y) :: st) w Φ) : bq_W G M d pc lv (.long y :: .long x :: st) w Φ := fun h hH => bp_lcmp hd (k h hH)
theorem bq_dup {v : Value} (hd : decode (bp_c M) pc = .ok (.dup, 1)) (hv : v.category = 1) (k : bq_W G M d (pc + 1) lv (v :: v :: st) w Φ) : bq_W G M d pc lv (v :: st) w Φ := fun h hH => bp_dup hd hv (k h hH)
theorem bq_pop {v : Value} (hd : decode (bp_c M) pc = .ok (.pop, 1)) (hv : v.category = 1) (k : bq_W G M d (pc + 1) lv (st) w Φ) : bq_W G M d pc lv (v :: st) w Φ := fun h hH => bp_pop hd hv (k h hH)
theorem bq_dup2 {v w9 : Value} (hd : decode (bp_c M) pc = .ok (.dup2, 1)) (hv : v.category = 1) (hw : w9.category = 1) (k : bq_W G M d (pc + 1) lv (v :: w9 :: v :: w9 :: st) w Φ) : bq_W G M d pc lv (v :: w9 :: st) w Φ := fun h hH => bp_dup2 hd hv hw (k h hH)
theorem bq_dup_x1 {v w9 : Value} (hd : decode (bp_c M) pc = .ok (.dup_x1, 1)) (hv : v.category = 1) (hw : w9.category = 1) (k : bq_W G M d (pc + 1) lv (v :: w9 :: v :: st) w Φ) : bq_W G M d pc lv (v :: w9 :: st) w Φ := fun h hH => bp_dup_x1 hd hv hw (k h hH)
theorem bq_if_eq {x : Int32} {off : Int} {tgt : Nat} (hd : decode (bp_c M) pc = .ok (.ifCond .eq off, 3)) (ht : (pc : Int) + off = (tgt : Int)) (kt : x = 0 → bq_W G M d tgt lv st w Φ) (kf : ¬ x = 0 → bq_W G M d (pc + 3) lv st w Φ) : bq_W G M d pc lv (.int x :: st) w Φ := fun h hH => bp_if_eq hd ht (fun z => kt z h hH) (fun z => kf z h hH)
theorem bq_if_ne {x : Int32} {off : Int} {tgt : Nat} (hd : decode (bp_c M) pc = .ok (.ifCond .ne off, 3)) (ht : (pc : Int) + off = (tgt : Int)) (kt : ¬ x = 0 → bq_W G M d tgt lv st w Φ) (kf : x = 0 → bq_W G M d (pc + 3) lv st w Φ) : bq_W G M d pc lv (.int x :: st) w Φ := fun h hH => bp_if_ne hd ht (fun z => kt z h hH) (fun z => kf z h hH)
theorem bq_if_lt {x : Int32} {off : Int} {tgt : Nat} (hd : decode (bp_c M) pc = .ok (.ifCond .lt off, 3)) (ht : (pc : Int) + off = (tgt : Int)) (kt : x < 0 → bq_W G M d tgt lv st w Φ) (kf : ¬ x < 0 → bq_W G M d (pc + 3) lv st w Φ) : bq_W G M d pc lv (.int x :: st) w Φ := fun h hH => bp_if_lt hd ht (fun z => kt z h hH) (fun z => kf z h hH)
theorem bq_if_ge {x : Int32} {off : Int} {tgt : Nat} (hd : decode (bp_c M) pc = .ok (.ifCond .ge off, 3)) (ht : (pc : Int) + off = (tgt : Int)) (kt : 0 ≤ x → bq_W G M d tgt lv st w Φ) (kf : ¬ 0 ≤ x → bq_W G M d (pc + 3) lv st w Φ) : bq_W G M d pc lv (.int x :: st) w Φ := fun h hH => bp_if_ge hd ht (fun z => kt z h hH) (fun z => kf z h hH)
theorem bq_if_gt {x : Int32} {off : Int} {tgt : Nat} (hd : decode (bp_c M) pc = .ok (.ifCond .gt off, 3)) (ht : (pc : Int) + off = (tgt : Int)) (kt : 0 < x → bq_W G M d tgt lv st w Φ) (kf : ¬ 0 < x → bq_W G M d (pc + 3) lv st w Φ) : bq_W G M d pc lv (.int x :: st) w Φ := fun h hH => bp_if_gt hd ht (fun z => kt z h hH) (fun z => kf z h hH)
theorem bq_if_le {x : Int32} {off : Int} {tgt : Nat} (hd : decode (bp_c M) pc = .ok (.ifCond .le off, 3)) (ht : (pc : Int) + off = (tgt : Int)) (kt : x ≤ 0 → bq_W G M d tgt lv st w Φ) (kf : ¬ x ≤ 0 → bq_W G M d (pc + 3) lv st w Φ) : bq_W G M d pc lv (.int x :: st) w Φ := fun h hH => bp_if_le hd ht (fun z => kt z h hH) (fun z => kf z h hH)
theorem bq_icmp_eq {x y : Int32} {off : Int} {tgt : Nat} (hd : decode (bp_c M) pc = .ok (.if_icmp .eq off, 3)) (ht : (pc : Int) + off = (tgt : Int)) (kt : x = y → bq_W G M d tgt lv st w Φ) (kf : ¬ x = y → bq_W G M d (pc + 3) lv st w Φ) : bq_W G M d pc lv (.int y :: .int x :: st) w Φ := fun h hH => bp_icmp_eq hd ht (fun z => kt z h hH) (fun z => kf z h hH)
theorem bq_icmp_ne {x y : Int32} {off : Int} {tgt : Nat} (hd : decode (bp_c M) pc = .ok (.if_icmp .ne off, 3)) (ht : (pc : Int) + off = (tgt : Int)) (kt : ¬ x = y → bq_W G M d tgt lv st w Φ) (kf : x = y → bq_W G M d (pc + 3) lv st w Φ) : bq_W G M d pc lv (.int y :: .int x :: st) w Φ := fun h hH => bp_icmp_ne hd ht (fun z => kt z h hH) (fun z => kf z h hH)
theorem bq_icmp_lt {x y : Int32} {off : Int} {tgt : Nat} (hd : decode (bp_c M) pc = .ok (.if_icmp .lt off, 3)) (ht : (pc : Int) + off = (tgt : Int)) (kt : x < y → bq_W G M d tgt lv st w Φ) (kf : ¬ x < y → bq_W G M d (pc + 3) lv st w Φ) : bq_W G M d pc lv (.int y :: .int x :: st) w Φ := fun h hH => bp_icmp_lt hd ht (fun z => kt z h hH) (fun z => kf z h hH)
theorem bq_icmp_ge {x y : Int32} {off : Int} {tgt : Nat} (hd : decode (bp_c M) pc = .ok (.if_icmp .ge off, 3)) (ht : (pc : Int) + off = (tgt : Int)) (kt : y ≤ x → bq_W G M d tgt lv st w Φ) (kf : ¬ y ≤ x → bq_W G M d (pc + 3) lv st w Φ) : bq_W G M d pc lv (.int y :: .int x :: st) w Φ := fun h hH => bp_icmp_ge hd ht (fun z => kt z h hH) (fun z => kf z h hH)
theorem bq_icmp_gt {x y : Int32} {off : Int} {tgt : Nat} (hd : decode (bp_c M) pc = .ok (.if_icmp .gt off, 3)) (ht : (pc : Int) + off = (tgt : Int)) (kt : y < x → bq_W G M d tgt lv st w Φ) (kf : ¬ y < x → bq_W G M d (pc + 3) lv st w Φ) : bq_W G M d pc lv (.int y :: .int x :: st) w Φ := fun h hH => bp_icmp_gt hd ht (fun z => kt z h hH) (fun z => kf z h hH)
theorem bq_icmp_le {x y : Int32} {off : Int} {tgt : Nat} (hd : decode (bp_c M) pc = .ok (.if_icmp .le off, 3)) (ht : (pc : Int) + off = (tgt : Int)) (kt : x ≤ y → bq_W G M d tgt lv st w Φ) (kf : ¬ x ≤ y → bq_W G M d (pc + 3) lv st w Φ) : bq_W G M d pc lv (.int y :: .int x :: st) w Φ := fun h hH => bp_icmp_le hd ht (fun z => kt z h hH) (fun z => kf z h hH)
theorem bq_acmp_eq {rx ry : Option Nat} {off : Int} {tgt : Nat} (hd : decode (bp_c M) pc = .ok (.if_acmp .eq off, 3)) (ht : (pc : Int) + off = (tgt : Int)) (kt : rx = ry → bq_W G M d tgt lv st w Φ) (kf : ¬ rx = ry → bq_W G M d (pc + 3) lv st w Φ) : bq_W G M d pc lv (va_rf ry :: va_rf rx :: st) w Φ := fun h hH => bp_acmp_eq hd ht (fun z => kt z h hH) (fun z => kf z h hH)
theorem bq_acmp_ne {rx ry : Option Nat} {off : Int} {tgt : Nat} (hd : decode (bp_c M) pc = .ok (.if_acmp .ne off, 3)) (ht : (pc : Int) + off = (tgt : Int)) (kt : ¬ rx = ry → bq_W G M d tgt lv st w Φ) (kf : rx = ry → bq_W G M d (pc + 3) lv st w Φ) : bq_W G M d pc lv (va_rf ry :: va_rf rx :: st) w Φ := fun h hH => bp_acmp_ne hd ht (fun z => kt z h hH) (fun z => kf z h hH)
theorem bq_goto {off : Int} {tgt : Nat} (hd : decode (bp_c M) pc = .ok (.goto off, 3)) (ht : (pc : Int) + off = (tgt : Int)) (k : bq_W G M d tgt lv st w Φ) : bq_W G M d pc lv st w Φ := fun h hH => bp_goto hd ht (k h hH)
theorem bq_ifnull {x : Nat} {off : Int} (hd : decode (bp_c M) pc = .ok (.ifnull off, 3)) (k : bq_W G M d (pc + 3) lv st w Φ) : bq_W G M d pc lv (.ref x :: st) w Φ := fun h hH => bp_ifnull hd (k h hH)
theorem bq_ifnullN {off : Int} {tgt : Nat} (hd : decode (bp_c M) pc = .ok (.ifnull off, 3)) (ht : (pc : Int) + off = (tgt : Int)) (k : bq_W G M d tgt lv st w Φ) : bq_W G M d pc lv (.null :: st) w Φ := fun h hH => bp_ifnullN hd ht (k h hH)
theorem bq_ifnonnull {x : Nat} {off : Int} {tgt : Nat} (hd : decode (bp_c M) pc = .ok (.ifnonnull off, 3)) (ht : (pc : Int) + off = (tgt : Int)) (k : bq_W G M d tgt lv st w Φ) : bq_W G M d pc lv (.ref x :: st) w Φ := fun h hH => bp_ifnonnull hd ht (k h hH)
theorem bq_ifnonnullN {off : Int} (hd : decode (bp_c M) pc = .ok (.ifnonnull off, 3)) (k : bq_W G M d (pc + 3) lv st w Φ) : bq_W G M d pc lv (.null :: st) w Φ := fun h hH => bp_ifnonnullN hd (k h hH)
theorem bq_ifnullq {r : Option Nat} {off : Int} {tgt : Nat} (hd : decode (bp_c M) pc = .ok (.ifnull off, 3)) (ht : (pc : Int) + off = (tgt : Int)) (kt : r = none → bq_W G M d tgt lv st w Φ) (kf : ∀ x, r = some x → bq_W G M d (pc + 3) lv st w Φ) : bq_W G M d pc lv (va_rf r :: st) w Φ := fun h hH => bp_ifnullq hd ht (fun z => kt z h hH) (fun x z => kf x z h hH)
theorem bq_ifnonnullq {r : Option Nat} {off : Int} {tgt : Nat} (hd : decode (bp_c M) pc = .ok (.ifnonnull off, 3)) (ht : (pc : Int) + off = (tgt : Int)) (kt : ∀ x, r = some x → bq_W G M d tgt lv st w Φ) (kf : r = none → bq_W G M d (pc + 3) lv st w Φ) : bq_W G M d pc lv (va_rf r :: st) w Φ := fun h hH => bp_ifnonnullq hd ht (fun x z => kt x z h hH) (fun z => kf z h hH)
theorem bq_tableOut {dflt lo hi : Int} {offs : Array Int} {len : Nat} {x : Int32} {tgt : Nat} (hd : decode (bp_c M) pc = .ok (.tableswitch dflt lo hi offs, len)) (hx : x.toInt < lo ∨ hi < x.toInt) (ht : (pc : Int) + dflt = (tgt : Int)) (k : bq_W G M d tgt lv st w Φ) : bq_W G M d pc lv (.int x :: st) w Φ := fun h hH => bp_tableOut hd hx ht (k h hH)
theorem bq_tableIn {dflt lo hi : Int} {offs : Array Int} {len : Nat} {x : Int32} {off : Int} {tgt : Nat} (hd : decode (bp_c M) pc = .ok (.tableswitch dflt lo hi offs, len)) (h1 : ¬ x.toInt < lo) (h2 : ¬ hi < x.toInt) (ho : offs[(x.toInt - lo).toNat]? = some off) (ht : (pc : Int) + off = (tgt : Int)) (k : bq_W G M d tgt lv st w Φ) : bq_W G M d pc lv (.int x :: st) w Φ := fun h hH => bp_tableIn hd h1 h2 ho ht (k h hH)
theorem bq_ldc {index : Nat} {v : Int32} (hd : decode (bp_c M) pc = .ok (.ldc index, 2)) (hw : Cond.constant (bp_own_ M) index v ∈ bp_UW) (k : bq_W G M d (pc + 2) lv (.int v :: st) w Φ) : bq_W G M d pc lv st w Φ := fun h hH => bp_ldc hd hw (k h hH)
theorem bq_getf {idx c i k : Nat} {ty : FieldType} {fin : Option Bool} {x : Value} (hd : decode (bp_c M) pc = .ok (.getfield idx, 3)) (fl : bp_FL (bp_own_ M) idx c k ty fin) (hV : bq_V w c i) (hx : bq_v w c i k = x) (hck : c < 7 ∧ k < 32) (kk : bq_W G M d (pc + 3) lv (x :: st) w Φ) : bq_W G M d pc lv (.ref (bq_ad w c i) :: st) w Φ := fun h hH =>
  bp_getf hd fl (hH.k hV hck.1) ((hH.val hV hck.1 hck.2).trans hx) (kk h hH)
theorem bq_putf {idx c i k : Nat} {ty : FieldType} {fin : Option Bool} {x : Value} (hd : decode (bp_c M) pc = .ok (.putfield idx, 3)) (fl : bp_FL (bp_own_ M) idx c k ty fin) (hfin : fin = some false ∨ (fin = some true ∧ (bp_y M).name = "<init>")) (hV : bq_V w c i) (hck : c < 7 ∧ k < 32) (hn : narrow ty x = x) (hf : fits ty x = true)
    (kk : bq_W G M d (pc + 3) lv st (bq_f w c i k x) Φ) : bq_W G M d pc lv (x :: .ref (bq_ad w c i) :: st) w Φ := fun h hH => bp_putf hd fl hfin (hH.k hV hck.1) hn hf (kk _ (hH.put hV hck.1 hck.2))
theorem bq_slen (hd : decode (bp_c M) pc = .ok (.arraylength, 1)) (kk : bq_W G M d (pc + 1) lv (.int (nI (bp_sL G)) :: st) w Φ) : bq_W G M d pc lv (.ref (bp_sb G) :: st) w Φ := fun h hH => bp_slen hd (kk h hH)
theorem bq_sld {j : Nat} {i : Int32} (hd : decode (bp_c M) pc = .ok (.iaload, 1)) (hi : i = nI j) (hj : j < bp_sL G) (hn : bp_sL G < 2 ^ 31) (kk : bq_W G M d (pc + 1) lv (.int (bp_xs G j) :: st) w Φ) : bq_W G M d pc lv (.int i :: .ref (bp_sb G) :: st) w Φ := fun h hH => bp_sld hd hi hj hn (kk h hH)
theorem bq_alen {n ti len : Nat} (hd : decode (bp_c M) pc = .ok (.arraylength, 1)) (hV : bq_V w 8 n) (ht : bq_at w n = (ti, len)) (kk : bq_W G M d (pc + 1) lv (.int (nI len) :: st) w Φ) : bq_W G M d pc lv (.ref (bq_ad w 8 n) :: st) w Φ := fun h hH => bp_alen hd (hH.arr hV ht).1 (kk h hH)
theorem bq_iald {n len j : Nat} {i : Int32} {x : Value} (hd : decode (bp_c M) pc = .ok (.iaload, 1)) (hV : bq_V w 8 n) (ht : bq_at w n = (0, len)) (hi : i = nI j) (hj : j < len) (hn : len < 2 ^ 31) (hx : bq_v w 8 n j = x) (kk : bq_W G M d (pc + 1) lv (x :: st) w Φ) : bq_W G M d pc lv (.int i :: .ref (bq_ad w 8 n) :: st) w Φ := fun h hH =>
  bp_iald hd (hH.arr hV ht).1 hi hj hn (((hH.arr hV ht).2 j hj).trans hx) (kk h hH)
theorem bq_aald4 {n len j : Nat} {i : Int32} {x : Value} (hd : decode (bp_c M) pc = .ok (.aaload, 1)) (hV : bq_V w 8 n) (ht : bq_at w n = (4, len)) (hi : i = nI j) (hj : j < len) (hn : len < 2 ^ 31) (hx : bq_v w 8 n j = x) (kk : bq_W G M d (pc + 1) lv (x :: st) w Φ) : bq_W G M d pc lv (.int i :: .ref (bq_ad w 8 n) :: st) w Φ := fun h hH =>
  bp_aald4 hd (hH.arr hV ht).1 hi hj hn (((hH.arr hV ht).2 j hj).trans hx) (kk h hH)
theorem bq_iast {n len j : Nat} {i : Int32} {x : Int32} (hd : decode (bp_c M) pc = .ok (.iastore, 1)) (hV : bq_V w 8 n) (ht : bq_at w n = (0, len)) (hi : i = nI j) (hj : j < len) (hn : len < 2 ^ 31) (kk : bq_W G M d (pc + 1) lv st (bq_f w 8 n j (.int x)) Φ) : bq_W G M d pc lv (.int x :: .int i :: .ref (bq_ad w 8 n) :: st) w Φ := fun h hH =>
  bp_iast hd (hH.arr hV ht).1 hi hj hn (kk _ (hH.sta hV ht hj))
theorem bq_cast {idx i N c : Nat} {C : String} {T : u_T} (hd : decode (bp_c M) pc = .ok (.checkcast idx, 3)) (hc : bp_cl[c]? = some (C, T, N)) (hw : Cond.classLink (bp_own_ M) idx C ∈ bp_UW) (hV : bq_V w c i) (hc7 : c < 7) (kk : bq_W G M d (pc + 3) lv (.ref (bq_ad w c i) :: st) w Φ) : bq_W G M d pc lv (.ref (bq_ad w c i) :: st) w Φ := fun h hH => bp_cast hd hc hw (hH.k hV hc7) (kk h hH)
theorem bq_iret {ty : FieldType} {x : Int32} (hd : decode (bp_c M) pc = .ok (.ireturn, 1)) (hr : bp_r M = some ty) (hn : narrow ty (.int x) = .int x) (hΦ : Φ (.inl (some (.int x))) w) : bq_W G M d pc lv [.int x] w Φ := fun h hH => bp_iret hd hr hn ⟨w, hH, hΦ⟩
theorem bq_vret (hd : decode (bp_c M) pc = .ok (.return_, 1)) (hr : bp_r M = none) (hΦ : Φ (.inl none) w) : bq_W G M d pc lv [] w Φ := fun h hH => bp_vret hd hr ⟨w, hH, hΦ⟩
theorem bq_aret {n : String} {a : Nat} (hd : decode (bp_c M) pc = .ok (.areturn, 1)) (hr : bp_r M = some (.object n)) (hΦ : Φ (.inl (some (.ref a))) w) : bq_W G M d pc lv [.ref a] w Φ := fun h hH => bp_aret hd hr ⟨w, hH, hΦ⟩
theorem bq_aretN {n : String} (hd : decode (bp_c M) pc = .ok (.areturn, 1)) (hr : bp_r M = some (.object n)) (hΦ : Φ (.inl (some .null)) w) : bq_W G M d pc lv [.null] w Φ := fun h hH => bp_aretN hd hr ⟨w, hH, hΦ⟩
theorem bq_throw {ik is ic : Nat} {cls text : String} {names : List String} (d0 : decode (bp_c M) pc = .ok (.new ik, 3)) (d3 : decode (bp_c M) (pc + 3) = .ok (.dup, 1)) (d4 : decode (bp_c M) (pc + 4) = .ok (.ldc is, 2)) (d6 : decode (bp_c M) (pc + 6) = .ok (.invokespecial ic, 3)) (d9 : decode (bp_c M) (pc + 9) = .ok (.athrow, 1))
    (hw : bp_TW (bp_own_ M) ik is ic cls text names) (ht : bp_t M = []) (hd : 6 ≤ d) (hst : (st.map fun v => v.category).sum ≤ 8) (hm : bq_us w + 7 ≤ bp_max) (hΦ : Φ (.inr cls) (bq_more w 7)) : bq_W G M d pc lv st w Φ := fun h hH =>
  bp_throw d0 d3 d4 d6 d9 hw ht hd hst (by obtain ⟨cp, -, -, -, -, h5, -⟩ := hH; have : h.2.2 ≤ bq_us w := by omega
                                           omega) ⟨_, hH.more hm, hΦ⟩
theorem bq_out {E : String} (ht : bp_t M = []) (hΦ : Φ (.inr E) w) : bq_Wx G M d pc lv st w E Φ := fun h hH => bp_out ht ⟨w, hH, hΦ⟩
theorem bq_catch {E name : String} {x : Nat × Nat × Nat × Nat} (pre suf : List (Nat × Nat × Nat × Nat)) (hsplit : bp_t M = pre ++ x :: suf) (hpass : ∀ z ∈ pre, covers ⟨z.1, z.2.1, z.2.2.1, z.2.2.2⟩ pc = false ∨ (z.2.2.2 ≠ 0 ∧ ∃ nm : String, Cond.classLink (bp_own_ M) z.2.2.2 nm ∈ bp_UW ∧ (E, nm) ∈ bp_ncs))
    (hx : covers ⟨x.1, x.2.1, x.2.2.1, x.2.2.2⟩ pc = true) (h0 : x.2.2.2 ≠ 0) (hlink : Cond.classLink (bp_own_ M) x.2.2.2 name ∈ bp_UW) (hcast : Cond.castable E name ∈ bp_UW) (kk : ∀ q : Nat, bq_W G M d x.2.2.1 lv [.ref q] w Φ) : bq_Wx G M d pc lv st w E Φ := fun h hH => bp_catch pre suf hsplit hpass hx h0 hlink hcast (fun q => kk q h hH)
theorem bq_callV {M' : bp_M} {idx d' c i N : Nat} {As : List Value} {C : String} {T : u_T} {Φ' : bp_O → bq_O → Prop} (hd : decode (bp_c M) pc = .ok (.invokevirtual idx, 3)) (hc : bp_cl[c]? = some (C, T, N)) (hm : bp_MV (bp_own_ M) idx M' As.length C) (hV : bq_V w c i) (hc7 : c < 7)
    (hM : bq_S G M' d' (.ref (bq_ad w c i) :: As) w Φ') (hdd : d' + 1 ≤ d) (hn : bp_n M' ≤ 20) (hst : (st.map fun v => v.category).sum ≤ 8) {st0 : List Value} (hst0 : st0 = As.reverse ++ .ref (bq_ad w c i) :: st)
    (kk : ∀ (v : Option Value) (w' : bq_O), Φ' (.inl v) w' → bq_W G M d (pc + 3) lv (v.toList ++ st) w' Φ) (kx : ∀ (E : String) (w' : bq_O), Φ' (.inr E) w' → bq_Wx G M d pc lv st w' E Φ) : bq_W G M d pc lv st0 w Φ := fun h hH =>
  bp_callV hd hc hm (hH.k hV hc7) (hM h hH) hdd hn hst hst0 (fun v h' hp => by obtain ⟨w', h1, h2⟩ := hp; exact kk v w' h2 h' h1) (fun E h' hp => by obtain ⟨w', h1, h2⟩ := hp; exact kx E w' h2 h' h1)
theorem bq_callS {M' : bp_M} {idx d' : Nat} {As : List Value} {Φ' : bp_O → bq_O → Prop} (hd : decode (bp_c M) pc = .ok (.invokestatic idx, 3)) (hm : bp_MS (bp_own_ M) idx M' As.length)
    (hM : bq_S G M' d' As w Φ') (hdd : d' + 1 ≤ d) (hn : bp_n M' ≤ 20) (hst : (st.map fun v => v.category).sum ≤ 8) {st0 : List Value} (hst0 : st0 = As.reverse ++ st)
    (kk : ∀ (v : Option Value) (w' : bq_O), Φ' (.inl v) w' → bq_W G M d (pc + 3) lv (v.toList ++ st) w' Φ) (kx : ∀ (E : String) (w' : bq_O), Φ' (.inr E) w' → bq_Wx G M d pc lv st w' E Φ) : bq_W G M d pc lv st0 w Φ := fun h hH =>
  bp_callS hd hm (hM h hH) hdd hn hst hst0 (fun v h' hp => by obtain ⟨w', h1, h2⟩ := hp; exact kk v w' h2 h' h1) (fun E h' hp => by obtain ⟨w', h1, h2⟩ := hp; exact kx E w' h2 h' h1)
theorem bq_callI {M' : bp_M} {idx d' b : Nat} {As : List Value} {Φ' : bp_O → bq_O → Prop} (hd : decode (bp_c M) pc = .ok (.invokespecial idx, 3)) (hm : bp_MI (bp_own_ M) idx M' As.length)
    (hM : bq_S G M' d' (.ref b :: As) w Φ') (hdd : d' + 1 ≤ d) (hn : bp_n M' ≤ 20) (hst : (st.map fun v => v.category).sum ≤ 8) {st0 : List Value} (hst0 : st0 = As.reverse ++ .ref b :: st)
    (kk : ∀ (v : Option Value) (w' : bq_O), Φ' (.inl v) w' → bq_W G M d (pc + 3) lv (v.toList ++ st) w' Φ) (kx : ∀ (E : String) (w' : bq_O), Φ' (.inr E) w' → bq_Wx G M d pc lv st w' E Φ) : bq_W G M d pc lv st0 w Φ := fun h hH =>
  bp_callI hd hm (hM h hH) hdd hn hst hst0 (fun v h' hp => by obtain ⟨w', h1, h2⟩ := hp; exact kk v w' h2 h' h1) (fun E h' hp => by obtain ⟨w', h1, h2⟩ := hp; exact kx E w' h2 h' h1)
theorem bq_objInit {idx b : Nat} (hd : decode (bp_c M) pc = .ok (.invokespecial idx, 3)) (hw : Cond.methodLink (bp_own_ M) idx Lib.objectInit ∈ bp_UW ∧ Cond.instanceMethod Lib.objectInit ∈ bp_UW ∧ Cond.code Lib.objectInit ⟨#[0xb1]⟩ 1 none ∈ bp_UW) (hdd : 1 ≤ d) (hst : (st.map fun v => v.category).sum ≤ 8) (kk : bq_W G M d (pc + 3) lv st w Φ) : bq_W G M d pc lv (.ref b :: st) w Φ := fun h hH => bp_objInit hd hw hdd hst (kk h hH)
theorem bq_mmax {idx : Nat} {x y : Int32} (hd : decode (bp_c M) pc = .ok (.invokestatic idx, 3)) (hw : Cond.methodLink (bp_own_ M) idx Lib.Math.max.name ∈ bp_UW ∧ Cond.static Lib.Math.max.name ∈ bp_UW ∧ Cond.initialized "java/lang/Math" ∈ bp_UW ∧ Cond.code Lib.Math.max.name Lib.Math.max.code 2 (some .int) ∈ bp_UW) (hdd : 1 ≤ d) (hst : (st.map fun v => v.category).sum ≤ 8) (kk : bq_W G M d (pc + 3) lv (.int (if x < y then y else x) :: st) w Φ) : bq_W G M d pc lv (.int y :: .int x :: st) w Φ := fun h hH => bp_mmax hd hw hdd hst (kk h hH)
theorem bq_mmin {idx : Nat} {x y : Int32} (hd : decode (bp_c M) pc = .ok (.invokestatic idx, 3)) (hw : Cond.methodLink (bp_own_ M) idx Lib.Math.min.name ∈ bp_UW ∧ Cond.static Lib.Math.min.name ∈ bp_UW ∧ Cond.initialized "java/lang/Math" ∈ bp_UW ∧ Cond.code Lib.Math.min.name Lib.Math.min.code 2 (some .int) ∈ bp_UW) (hdd : 1 ≤ d) (hst : (st.map fun v => v.category).sum ≤ 8) (kk : bq_W G M d (pc + 3) lv (.int (if y < x then y else x) :: st) w Φ) : bq_W G M d pc lv (.int y :: .int x :: st) w Φ := fun h hH => bp_mmin hd hw hdd hst (kk h hH)
def bq_ret (v : Option Value) (w : bq_O) : bp_O → bq_O → Prop := fun o w' => o = .inl v ∧ w' = w
def bq_val (P : Option Value → bq_O → Prop) : bp_O → bq_O → Prop := fun o w' => ∃ v : Option Value, o = .inl v ∧ P v w'
theorem bq_ret_i {v : Option Value} : bq_ret v w (.inl v) w := ⟨rfl, rfl⟩
theorem bq_val_i {P : Option Value → bq_O → Prop} {v : Option Value} (hp : P v w) : bq_val P (.inl v) w := ⟨v, rfl, hp⟩
variable {M' : bp_M} {idx d' c i N b : Nat} {As st0 : List Value} {C : String} {T : u_T}
theorem bq_callVr {v : Option Value} {w1 : bq_O} (hd : decode (bp_c M) pc = .ok (.invokevirtual idx, 3)) (hc : bp_cl[c]? = some (C, T, N)) (hm : bp_MV (bp_own_ M) idx M' As.length C) (hV : bq_V w c i) (hc7 : c < 7)
    (hM : bq_S G M' d' (.ref (bq_ad w c i) :: As) w (bq_ret v w1)) (hdd : d' + 1 ≤ d) (hn : bp_n M' ≤ 20) (hst : (st.map fun v => v.category).sum ≤ 8) (hst0 : st0 = As.reverse ++ .ref (bq_ad w c i) :: st) (kk : bq_W G M d (pc + 3) lv (v.toList ++ st) w1 Φ) : bq_W G M d pc lv st0 w Φ :=
  bq_callV hd hc hm hV hc7 hM hdd hn hst hst0 (fun v h' hp => by obtain ⟨e, rfl⟩ := hp; cases e; exact kk) (fun E h' hp => by obtain ⟨e, -⟩ := hp; cases e)
theorem bq_callVp {P : Option Value → bq_O → Prop} (hd : decode (bp_c M) pc = .ok (.invokevirtual idx, 3)) (hc : bp_cl[c]? = some (C, T, N)) (hm : bp_MV (bp_own_ M) idx M' As.length C) (hV : bq_V w c i) (hc7 : c < 7)
    (hM : bq_S G M' d' (.ref (bq_ad w c i) :: As) w (bq_val P)) (hdd : d' + 1 ≤ d) (hn : bp_n M' ≤ 20) (hst : (st.map fun v => v.category).sum ≤ 8) (hst0 : st0 = As.reverse ++ .ref (bq_ad w c i) :: st) (kk : ∀ (v : Option Value) (w' : bq_O), P v w' → bq_W G M d (pc + 3) lv (v.toList ++ st) w' Φ) : bq_W G M d pc lv st0 w Φ :=
  bq_callV hd hc hm hV hc7 hM hdd hn hst hst0 (fun v h' hp => by obtain ⟨u, e, hp⟩ := hp; cases e; exact kk _ _ hp) (fun E h' hp => by obtain ⟨u, e, hp⟩ := hp; cases e)
theorem bq_callSr {v : Option Value} {w1 : bq_O} (hd : decode (bp_c M) pc = .ok (.invokestatic idx, 3)) (hm : bp_MS (bp_own_ M) idx M' As.length)
    (hM : bq_S G M' d' As w (bq_ret v w1)) (hdd : d' + 1 ≤ d) (hn : bp_n M' ≤ 20) (hst : (st.map fun v => v.category).sum ≤ 8) (hst0 : st0 = As.reverse ++ st) (kk : bq_W G M d (pc + 3) lv (v.toList ++ st) w1 Φ) : bq_W G M d pc lv st0 w Φ :=
  bq_callS hd hm hM hdd hn hst hst0 (fun v h' hp => by obtain ⟨e, rfl⟩ := hp; cases e; exact kk) (fun E h' hp => by obtain ⟨e, -⟩ := hp; cases e)
theorem bq_callSp {P : Option Value → bq_O → Prop} (hd : decode (bp_c M) pc = .ok (.invokestatic idx, 3)) (hm : bp_MS (bp_own_ M) idx M' As.length)
    (hM : bq_S G M' d' As w (bq_val P)) (hdd : d' + 1 ≤ d) (hn : bp_n M' ≤ 20) (hst : (st.map fun v => v.category).sum ≤ 8) (hst0 : st0 = As.reverse ++ st) (kk : ∀ (v : Option Value) (w' : bq_O), P v w' → bq_W G M d (pc + 3) lv (v.toList ++ st) w' Φ) : bq_W G M d pc lv st0 w Φ :=
  bq_callS hd hm hM hdd hn hst hst0 (fun v h' hp => by obtain ⟨u, e, hp⟩ := hp; cases e; exact kk _ _ hp) (fun E h' hp => by obtain ⟨u, e, hp⟩ := hp; cases e)
theorem bq_callIr {v : Option Value} {w1 : bq_O} (hd : decode (bp_c M) pc = .ok (.invokespecial idx, 3)) (hm : bp_MI (bp_own_ M) idx M' As.length)
    (hM : bq_S G M' d' (.ref b :: As) w (bq_ret v w1)) (hdd : d' + 1 ≤ d) (hn : bp_n M' ≤ 20) (hst : (st.map fun v => v.category).sum ≤ 8) (hst0 : st0 = As.reverse ++ .ref b :: st) (kk : bq_W G M d (pc + 3) lv (v.toList ++ st) w1 Φ) : bq_W G M d pc lv st0 w Φ :=
  bq_callI hd hm hM hdd hn hst hst0 (fun v h' hp => by obtain ⟨e, rfl⟩ := hp; cases e; exact kk) (fun E h' hp => by obtain ⟨e, -⟩ := hp; cases e)
/-! the lists' methods, as rules -/
theorem bq_elm {h : bp_H} (hH : bq_H G h w) {c x : Nat} (hV : bq_V w c x) (hc : c < 3) : bp_el h (bq_ad w c x) := ⟨c, hc, hH.ob hV (by omega)⟩
theorem bq_lc3 (n : Nat) : bq_lc n < 3 := by unfold bq_lc; split <;> (try split) <;> omega
theorem bq_map_ins (f : Nat → Nat) (x : Nat) : ∀ (xs : List Nat) (j : Nat), (xs.insertIdx j x).map f = (xs.map f).insertIdx j (f x) := by
  intro xs
  induction xs with
  | nil => intro j; cases j <;> simp
  | cons a r ih =>
    intro j
    cases j with
    | zero => simp
    | succ j => simp [List.insertIdx_succ_cons, ih j]
theorem bq_map_era (f : Nat → Nat) : ∀ (xs : List Nat) (j : Nat), (xs.eraseIdx j).map f = (xs.map f).eraseIdx j := by
  intro xs
  induction xs with
  | nil => intro j; simp
  | cons a r ih =>
    intro j
    cases j with
    | zero => simp
    | succ j => simp [ih j]
variable {n x j : Nat} {xs : List Nat}
theorem bq_size (hd : decode (bp_c M) pc = .ok (.invokevirtual idx, 3)) (hm : bp_MV (bp_own_ M) idx mJx4a65c_size_8abf5 0 RJx4a65c) (hV : bq_V w 7 n) (hdd : 1 ≤ d) (hst : (st.map fun v => v.category).sum ≤ 8) (kk : bq_W G M d (pc + 3) lv (.int (nI (bq_ls w n).length) :: st) w Φ) : bq_W G M d pc lv (.ref (bq_ad w 7 n) :: st) w Φ := by
  intro h hH
  obtain ⟨cp, g1, g2, g3, -⟩ := hH.list hV
  have := kk h hH
  have e : (bq_ls w n).length = ((bq_ls w n).map (bq_ad w (bq_lc n))).length := by rw [List.length_map]
  rw [e] at this
  exact bp_callVr (As := []) (ci := 7) hd rfl hm g2.k (s_size g2) hdd (by decide) hst rfl this
theorem bq_isEmpty (hd : decode (bp_c M) pc = .ok (.invokevirtual idx, 3)) (hm : bp_MV (bp_own_ M) idx mJx4a65c_isEmpty_aae02 0 RJx4a65c) (hV : bq_V w 7 n) (hdd : 1 ≤ d) (hst : (st.map fun v => v.category).sum ≤ 8) (kk : bq_W G M d (pc + 3) lv (.int (if (bq_ls w n).length = 0 then nI 1 else nI 0) :: st) w Φ) : bq_W G M d pc lv (.ref (bq_ad w 7 n) :: st) w Φ := by
  intro h hH
  obtain ⟨cp, g1, g2, g3, -⟩ := hH.list hV
  have := kk h hH
  have e : (bq_ls w n).length = ((bq_ls w n).map (bq_ad w (bq_lc n))).length := by rw [List.length_map]
  rw [e] at this
  exact bp_callVr (As := []) (ci := 7) hd rfl hm g2.k (s_isEmpty g2 g2.len) hdd (by decide) hst rfl this
theorem bq_get (hd : decode (bp_c M) pc = .ok (.invokevirtual idx, 3)) (hm : bp_MV (bp_own_ M) idx mJx4a65c_get_915e3 1 RJx4a65c) (hV : bq_V w 7 n) {i9 : Int32} (hi : i9 = nI j) (hx : (bq_ls w n)[j]? = some x) (hdd : 3 ≤ d) (hst : (st.map fun v => v.category).sum ≤ 8) (kk : bq_W G M d (pc + 3) lv (.ref (bq_ad w (bq_lc n) x) :: st) w Φ) : bq_W G M d pc lv (.int i9 :: .ref (bq_ad w 7 n) :: st) w Φ := by
  intro h hH
  subst hi
  obtain ⟨cp, g1, g2, g3, -⟩ := hH.list hV
  have hx' : ((bq_ls w n).map (bq_ad w (bq_lc n)))[j]? = some (bq_ad w (bq_lc n) x) := by rw [List.getElem?_map, hx]; rfl
  exact bp_callVr (As := [.int (nI j)]) (ci := 7) hd rfl hm g2.k (s_get g2 hx') hdd (by decide) hst rfl (kk h hH)
theorem bq_add (hd : decode (bp_c M) pc = .ok (.invokevirtual idx, 3)) (hm : bp_MV (bp_own_ M) idx mJx4a65c_add_9ea2d 1 RJx4a65c) (hV : bq_V w 7 n) (hc : c = bq_lc n) (hx : bq_V w c x) (hlen : (bq_ls w n).length < 33) (hdd : 7 ≤ d) (hst : (st.map fun v => v.category).sum ≤ 8) (kk : bq_W G M d (pc + 3) lv (.int (nI 1) :: st) (bq_l w n (bq_ls w n ++ [x])) Φ) : bq_W G M d pc lv (.ref (bq_ad w c x) :: .ref (bq_ad w 7 n) :: st) w Φ := by
  intro h hH
  subst hc
  obtain ⟨cp, g1, g2, g3, gx, g4⟩ := hH.list hV
  refine bp_callVp (As := [.ref (bq_ad w (bq_lc n) x)]) (ci := 7) hd rfl hm g2.k (s_add g2 (by rw [List.length_map]; exact hlen) (bq_elm hH hx (bq_lc3 n)) g3) hdd (by decide) hst rfl (fun v h' hp => ?_)
  obtain ⟨rfl, m, L, F, U⟩ := hp
  exact kk h' (g4 h' m _ (fun z hz => by
    rcases List.mem_append.mp hz with hz | hz
    · exact gx z hz
    · rw [List.mem_singleton.mp hz]; exact hx) F (by rw [List.map_append]; exact L) U)
theorem bq_addi (hd : decode (bp_c M) pc = .ok (.invokevirtual idx, 3)) (hm : bp_MV (bp_own_ M) idx mJx4a65c_add_7a177 2 RJx4a65c) (hV : bq_V w 7 n) {i9 : Int32} (hi9 : i9 = nI j) (hc : c = bq_lc n) (hx : bq_V w c x) (hi : j ≤ (bq_ls w n).length) (hlen : (bq_ls w n).length < 33) (hdd : 7 ≤ d) (hst : (st.map fun v => v.category).sum ≤ 8) (kk : bq_W G M d (pc + 3) lv st (bq_l w n ((bq_ls w n).insertIdx j x)) Φ) : bq_W G M d pc lv (.ref (bq_ad w c x) :: .int i9 :: .ref (bq_ad w 7 n) :: st) w Φ := by
  intro h hH
  subst hc; subst hi9
  obtain ⟨cp, g1, g2, g3, gx, g4⟩ := hH.list hV
  refine bp_callVp (As := [.int (nI j), .ref (bq_ad w (bq_lc n) x)]) (ci := 7) hd rfl hm g2.k (s_addi g2 (by rw [List.length_map]; exact hlen) (by rw [List.length_map]; exact hi) (bq_elm hH hx (bq_lc3 n)) g3) hdd (by decide) hst rfl (fun v h' hp => ?_)
  obtain ⟨rfl, m, L, F, U⟩ := hp
  exact kk h' (g4 h' m _ (fun z hz => by
    rcases (List.mem_insertIdx hi).mp hz with rfl | hz
    · exact hx
    · exact gx z hz) F (by rw [bq_map_ins]; exact L) U)
theorem bq_remove (hd : decode (bp_c M) pc = .ok (.invokevirtual idx, 3)) (hm : bp_MV (bp_own_ M) idx mJx4a65c_remove_915e3 1 RJx4a65c) (hV : bq_V w 7 n) {i9 : Int32} (hi : i9 = nI j) (hx : (bq_ls w n)[j]? = some x) (hdd : 4 ≤ d) (hst : (st.map fun v => v.category).sum ≤ 8) (kk : bq_W G M d (pc + 3) lv (.ref (bq_ad w (bq_lc n) x) :: st) (bq_l w n ((bq_ls w n).eraseIdx j)) Φ) : bq_W G M d pc lv (.int i9 :: .ref (bq_ad w 7 n) :: st) w Φ := by
  intro h hH
  subst hi
  obtain ⟨cp, g1, g2, g3, gx, g4⟩ := hH.list hV
  have hx' : ((bq_ls w n).map (bq_ad w (bq_lc n)))[j]? = some (bq_ad w (bq_lc n) x) := by rw [List.getElem?_map, hx]; rfl
  refine bp_callVp (As := [.int (nI j)]) (ci := 7) hd rfl hm g2.k (s_remove g2 hx') hdd (by decide) hst rfl (fun v h' hp => ?_)
  obtain ⟨rfl, L, F, U⟩ := hp
  exact kk h' (g4 h' cp _ (fun z hz => gx z (List.mem_of_mem_eraseIdx hz)) F (by rw [bq_map_era]; exact L) (by rw [U]; exact Nat.le_refl _))
theorem bq_clear (hd : decode (bp_c M) pc = .ok (.invokevirtual idx, 3)) (hm : bp_MV (bp_own_ M) idx mJx4a65c_clear_da8c8 0 RJx4a65c) (hV : bq_V w 7 n) (hdd : 2 ≤ d) (hst : (st.map fun v => v.category).sum ≤ 8) (kk : bq_W G M d (pc + 3) lv st (bq_l w n []) Φ) : bq_W G M d pc lv (.ref (bq_ad w 7 n) :: st) w Φ := by
  intro h hH
  obtain ⟨cp, g1, g2, g3, gx, g4⟩ := hH.list hV
  refine bp_callVp (As := []) (ci := 7) hd rfl hm g2.k (s_clear g2) hdd (by decide) hst rfl (fun v h' hp => ?_)
  obtain ⟨rfl, L, F, U⟩ := hp
  exact kk h' (g4 h' cp [] (fun z hz => absurd hz List.not_mem_nil) F L (by rw [U]; exact Nat.le_refl _))
end BQR
/-! what is new -/
def bq_born (ty : Nat → FieldType) : Nat → Value := fun k => defaultValue (ty k)
section BQN
variable {G : bp_X} {M : bp_M} {d pc : Nat} {lv : List (Nat × Value)} {st : List Value} {w : bq_O} {Φ : bp_O → bq_O → Prop}
theorem bq_n_V {c i q n : Nat} {f : Nat → Value} {t : Nat × Nat} {c' i' : Nat} : bq_V (bq_n w c i q f t n) c' i' ↔ bq_V w c' i' ∨ (c' = c ∧ i' = i) := Iff.rfl
theorem bq_n_ad {c i q n : Nat} {f : Nat → Value} {t : Nat × Nat} : bq_ad (bq_n w c i q f t n) c i = q := by
  show (if c = c ∧ i = i then q else bq_ad w c i) = _
  rw [if_pos ⟨rfl, rfl⟩]
theorem bq_n_ado {c i q n : Nat} {f : Nat → Value} {t : Nat × Nat} {c' i' : Nat} (e : ¬ (c' = c ∧ i' = i)) : bq_ad (bq_n w c i q f t n) c' i' = bq_ad w c' i' := by
  show (if c' = c ∧ i' = i then q else bq_ad w c' i') = _
  rw [if_neg e]
theorem bq_n_vo {c i q n : Nat} {f : Nat → Value} {t : Nat × Nat} {c' i' : Nat} (e : ¬ (c' = c ∧ i' = i)) : bq_v (bq_n w c i q f t n) c' i' = bq_v w c' i' := by
  show (if c' = c ∧ i' = i then f else bq_v w c' i') = _
  rw [if_neg e]
theorem bq_n_v {c i q n : Nat} {f : Nat → Value} {t : Nat × Nat} : bq_v (bq_n w c i q f t n) c i = f := by
  show (if c = c ∧ i = i then f else bq_v w c i) = _
  rw [if_pos ⟨rfl, rfl⟩]
/-- what was there, behind something new at q: all clauses for the old ones -/
theorem bq_H.old {h : bp_H} (H : bq_H G h w) {c i q n : Nat} {f : Nat → Value} {t : Nat × Nat} {k : bp_K} {g : Nat → Value} {m : Nat} (hi : ¬ bq_V w c i) (f1 : (h.1 q).1 ≠ 1) (f2 : (h.1 q).1 ≠ 2) :
    ∃ cp : Nat → Nat,
      (∀ c' i' : Nat, bq_V w c' i' → c' < 7 → bp_ob (bp_new h q k g m) (bq_ad (bq_n w c i q f t n) c' i') c' ∧ ∀ j : Nat, j < 32 → (bp_new h q k g m).2.1 (bq_ad (bq_n w c i q f t n) c' i') (32 * c' + j) = bq_v (bq_n w c i q f t n) c' i' j) ∧
      (∀ l : Nat, bq_V w 7 l → l < 16 ∧ bp_L G (bp_new h q k g m) (bq_ad (bq_n w c i q f t n) 7 l) ((bq_ls w l).map (bq_ad (bq_n w c i q f t n) (bq_lc l))) (cp l) ∧ ∀ x ∈ bq_ls w l, bq_V w (bq_lc l) x) ∧
      (∀ a : Nat, bq_V w 8 a → (bp_new h q k g m).1 (bq_ad (bq_n w c i q f t n) 8 a) = (2, (bq_at w a).1, (bq_at w a).2, 0) ∧ ∀ j : Nat, j < (bq_at w a).2 → (bp_new h q k g m).2.1 (bq_ad (bq_n w c i q f t n) 8 a) (4096 + j) = bq_v (bq_n w c i q f t n) 8 a j) ∧
      (∀ c' i' j' : Nat, c' < 9 → bq_V (bq_n w c i q f t n) c' i' → bq_V (bq_n w c i q f t n) c' j' → bq_ad (bq_n w c i q f t n) c' i' = bq_ad (bq_n w c i q f t n) c' j' → i' = j') ∧
      (h.2.2 + bq_sum (fun n => bp_pot (cp n)) 16 ≤ bq_us w) := by
  obtain ⟨cp, h1, h2, h3, h4, h5, h6⟩ := H
  have ne : ∀ {c' i' : Nat}, bq_V w c' i' → ¬ (c' = c ∧ i' = i) := fun hV z => hi (by obtain ⟨rfl, rfl⟩ := z; exact hV)
  have nq : ∀ {c' i' : Nat}, bq_V w c' i' → c' < 9 → bq_ad w c' i' ≠ q := by
    intro c' i' hV hc z
    rcases Nat.lt_or_ge c' 7 with e | e
    · have := (h1 c' i' hV e).1.k.1
      rw [z] at this
      exact f1 this
    · rcases (show c' = 7 ∨ c' = 8 by omega) with rfl | rfl
      · have := (h2 i' hV).2.1.1.k.1
        rw [z] at this
        exact f1 this
      · have := (h3 i' hV).1
        rw [z] at this
        exact f2 (by rw [this])
  refine ⟨cp, fun c' i' hV hc => ?_, fun l hV => ?_, fun a hV => ?_, ?_, h5⟩
  · rw [bq_n_ado (ne hV), bq_n_vo (ne hV)]
    obtain ⟨g1, g2⟩ := h1 c' i' hV hc
    exact ⟨(g1.new f1).1, fun j hj => (bp_new_o (nq hV (by omega))).trans (g2 j hj)⟩
  · obtain ⟨g1, g2, g3⟩ := h2 l hV
    rw [bq_n_ado (ne hV)]
    refine ⟨g1, ?_, g3⟩
    have e : (bq_ls w l).map (bq_ad (bq_n w c i q f t n) (bq_lc l)) = (bq_ls w l).map (bq_ad w (bq_lc l)) := List.map_congr_left fun x hx => bq_n_ado (ne (g3 x hx))
    rw [e]
    exact g2.new f1 f2
  · rw [bq_n_ado (ne hV), bq_n_vo (ne hV)]
    obtain ⟨g1, g2⟩ := h3 a hV
    exact ⟨(bp_new_k (nq hV (by omega))).trans g1, fun j hj => (bp_new_o (nq hV (by omega))).trans (g2 j hj)⟩
  · intro c' i' j' hc hi' hj' he
    rcases hi' with hi' | ⟨rfl, rfl⟩ <;> rcases hj' with hj' | ⟨e1, rfl⟩
    · rw [bq_n_ado (ne hi'), bq_n_ado (ne hj')] at he
      exact h4 c' i' j' hc hi' hj' he
    · subst e1
      rw [bq_n_ado (ne hi'), bq_n_ad] at he
      exact absurd he (nq hi' hc)
    · rw [bq_n_ado (ne hj'), bq_n_ad] at he
      exact absurd he.symm (nq hj' hc)
    · rfl
/-- a new object -/
theorem bq_newo {idx c i N : Nat} {ty : Nat → FieldType} (hd : decode (bp_c M) pc = .ok (.new idx, 3)) (hw : bp_NW (bp_own_ M) idx c N ty) (hc : c < 7) (hi : ¬ bq_V w c i) (hm : bq_us w + (1 + N) ≤ bp_max)
    (kk : ∀ q : Nat, bq_W G M d (pc + 3) lv (.ref (bq_ad (bq_n w c i q (bq_born ty) (0, 0) (1 + N)) c i) :: st) (bq_n w c i q (bq_born ty) (0, 0) (1 + N)) Φ) : bq_W G M d pc lv st w Φ := by
  intro h hH
  have hu : h.2.2 ≤ bq_us w := by obtain ⟨cp, -, -, -, -, h5, -⟩ := hH; omega
  refine bp_newo hd hw (by omega) (fun q f1 f2 hB => ?_)
  have k := kk q (bp_new h q (1, c, 0, 0) (bp_born c ty) (1 + N))
  rw [bq_n_ad] at k
  refine k ?_
  obtain ⟨cp, o1, o2, o3, o4, o5⟩ := hH.old (f := bq_born ty) (t := (0, 0)) (n := 1 + N) (k := (1, c, 0, 0)) (g := bp_born c ty) (m := 1 + N) hi f1 f2
  refine ⟨cp, fun c' i' hV hc' => ?_, fun l hV => ?_, fun a hV => ?_, o4, ?_, hm⟩
  · rcases hV with hV | ⟨rfl, rfl⟩
    · exact o1 c' i' hV hc'
    · rw [bq_n_ad, bq_n_v]
      refine ⟨bp_new_at, fun j hj => bp_new_v.trans ?_⟩
      simp [bp_born, bq_born]
  · rcases hV with hV | ⟨e, -⟩
    · have e7 : bq_ls (bq_n w c i q (bq_born ty) (0, 0) (1 + N)) l = bq_ls w l := by
        show (if c = 7 ∧ l = i then [] else bq_ls w l) = _
        rw [if_neg (by omega)]
      rw [e7]
      obtain ⟨g1, g2, g3⟩ := o2 l hV
      exact ⟨g1, g2, fun x hx => Or.inl (g3 x hx)⟩
    · omega
  · rcases hV with hV | ⟨e, -⟩
    · have e8 : bq_at (bq_n w c i q (bq_born ty) (0, 0) (1 + N)) a = bq_at w a := by
        show (if c = 8 ∧ a = i then _ else bq_at w a) = _
        rw [if_neg (by omega)]
      rw [e8]
      exact o3 a hV
    · omega
  · show h.2.2 + (1 + N) + _ ≤ bq_us w + (1 + N)
    omega
/-- a new array of numbers -/
theorem bq_newa {n : Int32} {N ti i : Nat} {atype : ArrayType} (hd : decode (bp_c M) pc = .ok (.newarray atype, 2)) (hti : ti < 3) (hty : newarray.typeOf atype = bp_ty ti) (hw : Cond.arrayClass (bp_ty ti) ∈ bp_UW) (hn : n = nI N) (hN : N ≤ 1000) (hi : ¬ bq_V w 8 i) (hm : bq_us w + (1 + N) ≤ bp_max)
    (kk : ∀ q : Nat, bq_W G M d (pc + 2) lv (.ref (bq_ad (bq_n w 8 i q (fun _ => defaultValue (bp_ty ti)) (ti, N) (1 + N)) 8 i) :: st) (bq_n w 8 i q (fun _ => defaultValue (bp_ty ti)) (ti, N) (1 + N)) Φ) : bq_W G M d pc lv (.int n :: st) w Φ := by
  intro h hH
  have hu : h.2.2 ≤ bq_us w := by obtain ⟨cp, -, -, -, -, h5, -⟩ := hH; omega
  refine bp_newa hd hti hty hw hn hN (by omega) (fun q f1 f2 hB => ?_)
  have k := kk q (bp_new h q (2, ti, N, 0) (fun _ => defaultValue (bp_ty ti)) (1 + N))
  rw [bq_n_ad] at k
  refine k ?_
  obtain ⟨cp, o1, o2, o3, o4, o5⟩ := hH.old (f := fun _ => defaultValue (bp_ty ti)) (t := (ti, N)) (n := 1 + N) (k := (2, ti, N, 0)) (g := fun _ => defaultValue (bp_ty ti)) (m := 1 + N) hi f1 f2
  refine ⟨cp, fun c' i' hV hc' => ?_, fun l hV => ?_, fun a hV => ?_, o4, ?_, hm⟩
  · rcases hV with hV | ⟨rfl, rfl⟩
    · exact o1 c' i' hV hc'
    · omega
  · rcases hV with hV | ⟨e, -⟩
    · have e7 : bq_ls (bq_n w 8 i q (fun _ => defaultValue (bp_ty ti)) (ti, N) (1 + N)) l = bq_ls w l := by
        show (if (8 : Nat) = 7 ∧ l = i then [] else bq_ls w l) = _
        rw [if_neg (by omega)]
      rw [e7]
      obtain ⟨g1, g2, g3⟩ := o2 l hV
      exact ⟨g1, g2, fun x hx => Or.inl (g3 x hx)⟩
    · omega
  · by_cases e : a = i
    · subst e
      rw [bq_n_ad, bq_n_v]
      have e8 : bq_at (bq_n w 8 a q (fun _ => defaultValue (bp_ty ti)) (ti, N) (1 + N)) a = (ti, N) := by
        show (if (8 : Nat) = 8 ∧ a = a then (ti, N) else bq_at w a) = _
        rw [if_pos ⟨rfl, rfl⟩]
      rw [e8]
      exact ⟨bp_new_at, fun j _ => bp_new_v⟩
    · have e8 : bq_at (bq_n w 8 i q (fun _ => defaultValue (bp_ty ti)) (ti, N) (1 + N)) a = bq_at w a := by
        show (if (8 : Nat) = 8 ∧ a = i then (ti, N) else bq_at w a) = _
        rw [if_neg (fun z => e z.2)]
      rw [e8]
      rcases hV with hV | ⟨-, e9⟩
      · exact o3 a hV
      · exact absurd e9 e
  · show h.2.2 + (1 + N) + _ ≤ bq_us w + (1 + N)
    omega
/-- a new list: new, dup, its constructor -/
theorem bq_newl {idx ix i : Nat} (hd : decode (bp_c M) pc = .ok (.new idx, 3)) (hw : bp_NW (bp_own_ M) idx 7 3 tyJx4a65c) (d3 : decode (bp_c M) (pc + 3) = .ok (.dup, 1)) (d4 : decode (bp_c M) (pc + 4) = .ok (.invokespecial ix, 3)) (hmi : bp_MI (bp_own_ M) ix mJx4a65c_init_da8c8 0) (hi : ¬ bq_V w 7 i) (h16 : i < 16) (hdd : 4 ≤ d) (hst : (st.map fun v => v.category).sum ≤ 7) (hm : bq_us w + 88 ≤ bp_max)
    (kk : ∀ q : Nat, bq_W G M d (pc + 7) lv (.ref (bq_ad (bq_n w 7 i q (fun _ => .null) (0, 0) 88) 7 i) :: st) (bq_n w 7 i q (fun _ => .null) (0, 0) 88) Φ) : bq_W G M d pc lv st w Φ := by
  intro h hH
  have hu : h.2.2 ≤ bq_us w := by obtain ⟨cp, -, -, -, -, h5, -⟩ := hH; omega
  refine bp_newo hd hw (by omega) (fun q f1 f2 hB => ?_)
  refine bp_dup d3 rfl ?_
  have ho : bp_ob (bp_new h q (1, 7, 0, 0) (bp_born 7 tyJx4a65c) (1 + 3)) q 7 := bp_new_at
  refine bp_callIr (As := []) d4 hmi (s_listInit ho) hdd (by decide) (by rw [List.map_cons, List.sum_cons]; show 1 + _ ≤ 8; omega) rfl ?_
  have k := kk q (bp_set (bp_set (bp_new h q (1, 7, 0, 0) (bp_born 7 tyJx4a65c) (1 + 3)) q 224 (.int (nI 0))) q 225 (.ref (bp_e0 G)))
  rw [bq_n_ad] at k
  refine k ?_
  obtain ⟨cp, o1, o2, o3, o4, o5⟩ := hH.old (f := fun _ => .null) (t := (0, 0)) (n := 88) (k := (1, 7, 0, 0)) (g := bp_born 7 tyJx4a65c) (m := 1 + 3) hi f1 f2
  have L := bp_L.fresh (G := G) ho (bp_new_v.trans (show bp_born 7 tyJx4a65c 226 = .int (nI 0) from rfl))
  have F : bp_Fr q (bp_new h q (1, 7, 0, 0) (bp_born 7 tyJx4a65c) (1 + 3)) (bp_set (bp_set (bp_new h q (1, 7, 0, 0) (bp_born 7 tyJx4a65c) (1 + 3)) q 224 (.int (nI 0))) q 225 (.ref (bp_e0 G))) := bp_Fr.setl.tr bp_Fr.setl
  have nV : ∀ l : Nat, bq_V w 7 l → l ≠ i := fun l hV z => hi (by rw [← z]; exact hV)
  refine ⟨fun l => if l = i then 0 else cp l, fun c' i' hV hc' => ?_, fun l hV => ?_, fun a hV => ?_, o4, ?_, hm⟩
  · rcases hV with hV | ⟨rfl, rfl⟩
    · obtain ⟨g1, g2⟩ := o1 c' i' hV hc'
      exact ⟨F.ob g1, fun j hj => (F.get g1 (g1.ne ho (by omega)) _).trans (g2 j hj)⟩
    · omega
  · show l < 16 ∧ bp_L G _ _ ((if (7 : Nat) = 7 ∧ l = i then [] else bq_ls w l).map _) (if l = i then 0 else cp l) ∧ ∀ x ∈ (if (7 : Nat) = 7 ∧ l = i then [] else bq_ls w l), _
    by_cases e : l = i
    · subst e
      rw [if_pos ⟨rfl, rfl⟩, if_pos rfl, bq_n_ad]
      exact ⟨h16, L, fun x hx => absurd hx List.not_mem_nil⟩
    · rw [if_neg (fun z => e z.2), if_neg e]
      rcases hV with hV | ⟨-, e9⟩
      · obtain ⟨g1, g2, g3⟩ := o2 l hV
        refine ⟨g1, F.L ho g2 ?_, fun x hx => Or.inl (g3 x hx)⟩
        intro z
        exact e (o4 7 l i (by omega) (Or.inl hV) (Or.inr ⟨rfl, rfl⟩) (by rw [z, bq_n_ad]))
      · exact absurd e9 e
  · rcases hV with hV | ⟨e, -⟩
    · obtain ⟨g1, g2⟩ := o3 a hV
      obtain ⟨k1, k2⟩ := F.arr g1 ho (by omega)
      have e8 : bq_at (bq_n w 7 i q (fun _ => .null) (0, 0) 88) a = bq_at w a := by
        show (if (7 : Nat) = 8 ∧ a = i then ((0, 0) : Nat × Nat) else bq_at w a) = _
        rw [if_neg (by omega)]
      rw [e8]
      exact ⟨k1, fun j hj => (k2 _).trans (g2 j hj)⟩
    · omega
  · have e9 := bq_sum_up (f := fun m => bp_pot (cp m)) (g := fun m => bp_pot (if m = i then 0 else cp m)) h16 (fun m hm => by simp [hm])
    have e7 : bp_pot (if i = i then 0 else cp i) = 84 := by simp [bp_pot]
    show h.2.2 + (1 + 3) + bq_sum (fun m => bp_pot (if m = i then 0 else cp m)) 16 ≤ bq_us w + 88
    rw [e7] at e9
    omega
end BQN


