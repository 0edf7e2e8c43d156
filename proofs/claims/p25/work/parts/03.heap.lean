/-! ===== the heap as functions: kinds, contents, how much is in use ===== -/
/-- of every address: what stands there (0 nothing known, 1 an object of class i, 2 an array of type i), its number i, its length, whose it is -/
abbrev bp_K : Type := Nat × Nat × Nat × Nat
/-- kinds, contents by address and place (an object's field k of class i at 32 i + k, an array's element j at 4096 + j), room in use -/
abbrev bp_H : Type := (Nat → bp_K) × (Nat → Nat → Value) × Nat
/-- launch, classes and slots, array classes, first address of our own, the empty array of the lists, the class object of Object[], the script -/
abbrev bp_X : Type := Launch × va_G × (Nat → ClassId) × Nat × Nat × Nat × Nat × Nat × (Nat → Int32)
abbrev bp_l (G : bp_X) : Launch := G.1
abbrev bp_D (G : bp_X) : va_G := G.2.1
abbrev bp_ca (G : bp_X) : Nat → ClassId := G.2.2.1
abbrev bp_B (G : bp_X) : Nat := G.2.2.2.1
abbrev bp_e0 (G : bp_X) : Nat := G.2.2.2.2.1
abbrev bp_mi (G : bp_X) : Nat := G.2.2.2.2.2.1
abbrev bp_sb (G : bp_X) : Nat := G.2.2.2.2.2.2.1
abbrev bp_sL (G : bp_X) : Nat := G.2.2.2.2.2.2.2.1
abbrev bp_xs (G : bp_X) : Nat → Int32 := G.2.2.2.2.2.2.2.2
abbrev bp_cl : List vw_C := [(RX0, TX0, 5), (RX1, TX1, 7), (RX2, TX2, 14), (RX3, TX3, 1), (RX4, TX4, 6), (RX5, TX5, 1), (RX3, TX3, 1), (RJx4a65c, TJx4a65c, 3)]
/-- the types of the array classes, by number -/
def bp_ty (i : Nat) : FieldType := match i with
  | 0 => .int
  | 1 => .int
  | 2 => .int
  | 3 => .object "java/lang/Object"
  | _ => .array .int
abbrev bp_tys (G : bp_X) : List (ClassId × FieldType) := [(bp_ca G 0, .int), (bp_ca G 1, .int), (bp_ca G 2, .int), (bp_ca G 3, .object "java/lang/Object"), (bp_ca G 4, .array .int)]
theorem bp_tys_at (G : bp_X) (i : Nat) (hi : i < 5) : (bp_tys G)[i]? = some (bp_ca G i, bp_ty i) := by
  match i, hi with
  | 0, _ => rfl
  | 1, _ => rfl
  | 2, _ => rfl
  | 3, _ => rfl
  | 4, _ => rfl
/-- cells and slots from an address on, together -/
def bp_us (b : Nat) (H : Heap) : Nat := ((H.toList.drop b).map (fun c : Cell => 1 + c.slots.size)).sum
theorem bp_us_split {L : List Cell} : (L.map (fun c : Cell => 1 + c.slots.size)).sum = L.length + (L.map (fun c : Cell => c.slots.size)).sum := by
  induction L with
  | nil => rfl
  | cons a l ih => simp only [List.map_cons, List.sum_cons, List.length_cons, ih]; omega
theorem bp_us_ext {b : Nat} {H H' : Heap} (hs : H'.size = H.size) (hq : ∀ (q : Nat) (c c' : Cell), H[q]? = some c → H'[q]? = some c' → c'.slots.size = c.slots.size) : bp_us b H' = bp_us b H := by
  unfold bp_us
  congr 1
  apply List.ext_getElem?
  intro i
  simp only [List.getElem?_map, List.getElem?_drop, Array.getElem?_toList]
  by_cases h : b + i < H.size
  · have h' : b + i < H'.size := by rw [hs]; exact h
    rw [Array.getElem?_eq_getElem h, Array.getElem?_eq_getElem h']
    simp only [Option.map_some]
    rw [hq (b + i) _ _ (Array.getElem?_eq_getElem h) (Array.getElem?_eq_getElem h')]
  · rw [Array.getElem?_eq_none (Nat.not_lt.mp h), Array.getElem?_eq_none (by rw [hs]; exact Nat.not_lt.mp h)]
theorem bp_us_push {b : Nat} {H H' : Heap} {cell : Cell} (hb : b ≤ H.size) (hs : H'.size = H.size + 1) (hc : H'[H.size]? = some cell) (hq : ∀ q : Nat, q < H.size → H'[q]? = H[q]?) : bp_us b H' = bp_us b H + (1 + cell.slots.size) := by
  have e : H'.toList = H.toList ++ [cell] := by
    apply List.ext_getElem?
    intro i
    rw [Array.getElem?_toList]
    rcases Nat.lt_trichotomy i H.size with h | h | h
    · rw [hq i h, List.getElem?_append_left (by simpa using h), Array.getElem?_toList]
    · subst h
      rw [hc, List.getElem?_append_right (by simp)]
      simp
    · rw [Array.getElem?_eq_none (by omega), List.getElem?_eq_none (by simp; omega)]
  unfold bp_us
  rw [e, List.drop_append_of_le_length (by simpa using hb)]
  simp
/-- two heaps, one grown out of the other: the room of the one and of what is new -/
theorem bp_us_grow {b : Nat} {H0 H : Heap} (hb : b ≤ H0.size) (hs : H0.size ≤ H.size) (hq : ∀ (q : Nat) (c : Cell), H0[q]? = some c → ∃ c' : Cell, H[q]? = some c' ∧ c'.slots.size = c.slots.size) :
    bp_us b H = bp_us b H0 + ((H.size - H0.size) + ((H.toList.drop H0.size).map (fun c : Cell => c.slots.size)).sum) := by
  have e1 : H.toList.drop b = (H.toList.take H0.size).drop b ++ H.toList.drop H0.size := by
    conv => lhs; rw [← List.take_append_drop H0.size H.toList]
    rw [List.drop_append_of_le_length (by simp; omega)]
  have e2 : ((H.toList.take H0.size).drop b).map (fun c : Cell => 1 + c.slots.size) = (H0.toList.drop b).map (fun c : Cell => 1 + c.slots.size) := by
    apply List.ext_getElem?
    intro i
    simp only [List.getElem?_map, List.getElem?_drop, Array.getElem?_toList, List.getElem?_take]
    by_cases h : b + i < H0.size
    · rw [if_pos h, Array.getElem?_eq_getElem h]
      obtain ⟨c', h1, h2⟩ := hq (b + i) _ (Array.getElem?_eq_getElem h)
      rw [h1]
      simp only [Option.map_some]
      rw [h2]
    · rw [if_neg h, Array.getElem?_eq_none (Nat.not_lt.mp h)]
  unfold bp_us
  rw [e1, List.map_append, List.sum_append, e2, bp_us_split (L := H.toList.drop H0.size)]
  congr 2
  simp
/-- a frame whose room is written anew: what its heap really takes -/
theorem bp_tight {p : Program} {l : Launch} {e : Env} {R : Room} {s : State} {m : MethodId} {args : Array Value} {below : List Frame} {meth : Method} {c : Code} {T : State} {locs : List Loc} {cells slots : Nat} (X : Stand p l e R s m args below meth c T locs cells slots)
    {b : Nat} (hb : b ≤ s.heap.size) : bp_us b s.heap ≤ bp_us b T.heap ∧ Stand p l e R s m args below meth c T locs (bp_us b T.heap - bp_us b s.heap) (bp_us b T.heap - bp_us b s.heap) := by
  obtain ⟨h1, h2, h3, h4, h5, h6⟩ := X.same
  have g := bp_us_grow (b := b) (H0 := s.heap) (H := T.heap) hb h2 (fun q c hc => by
    obtain ⟨c', e1, -, e3, -⟩ := h6 q c hc
    exact ⟨c', e1, e3⟩)
  refine ⟨by omega, { X with same := ⟨h1, h2, ?_, h4, ?_, h6⟩ }⟩
  · show T.heap.size ≤ _
    have : s.heap.size ≤ T.heap.size := h2
    omega
  · show ((T.heap.toList.drop s.heap.size).map (fun c : Cell => c.slots.size)).sum ≤ _
    omega
/-- what stands at an address -/
def bp_at (G : bp_X) (k : bp_K) (f : Nat → Value) (a : Nat) (H : Heap) : Prop :=
  (k.1 = 1 → bp_B G ≤ a ∧ ∃ r : vw_C, bp_cl[k.2.1]? = some r ∧ t_OB a ((bp_D G).1 k.2.1) r.2.2 ((bp_D G).2 k.2.1) H (fun j => f (32 * k.2.1 + j))) ∧
  (k.1 = 2 → bp_B G ≤ a ∧ k.2.1 < 5 ∧ H[a]? = some (arrV (bp_ca G k.2.1) k.2.2.1 (fun j => f (4096 + j))))
/-- all the room that a run may take -/
abbrev bp_max : Nat := 600000
/-- the heap is as the functions say -/
def bp_R (G : bp_X) (h : bp_H) (H : Heap) : Prop := (∀ a : Nat, bp_at G (h.1 a) (h.2.1 a) a H) ∧ bp_us (bp_B G) H ≤ h.2.2 ∧ h.2.2 ≤ bp_max ∧ bp_B G ≤ H.size
theorem bp_at.kept {G : bp_X} {k : bp_K} {f : Nat → Value} {a : Nat} {H H1 : Heap} (h : bp_at G k f a H) (hq : H1[a]? = H[a]?) : bp_at G k f a H1 := by
  refine ⟨fun e => ?_, fun e => ?_⟩
  · obtain ⟨h1, r, h2, h3⟩ := h.1 e
    exact ⟨h1, r, h2, h3.kept hq⟩
  · obtain ⟨h1, h2, h3⟩ := h.2 e
    exact ⟨h1, h2, hq.trans h3⟩
theorem bp_at.lt {G : bp_X} {k : bp_K} {f : Nat → Value} {a : Nat} {H : Heap} (h : bp_at G k f a H) (hk : k.1 = 1 ∨ k.1 = 2) : a < H.size := by
  rcases hk with e | e
  · obtain ⟨-, r, -, cell, h3, -⟩ := h.1 e
    exact (Array.getElem?_eq_some_iff.mp h3).1
  · obtain ⟨-, -, h3⟩ := h.2 e
    exact (Array.getElem?_eq_some_iff.mp h3).1
/-- a field or an element written -/
def bp_set (h : bp_H) (a k : Nat) (v : Value) : bp_H := (h.1, fun b j => if b = a ∧ j = k then v else h.2.1 b j, h.2.2)
/-- something new: its kind, its contents, its room -/
def bp_new (h : bp_H) (a : Nat) (k : bp_K) (f : Nat → Value) (n : Nat) : bp_H := (fun b => if b = a then k else h.1 b, fun b => if b = a then f else h.2.1 b, h.2.2 + n)
/-- room alone -/
def bp_more (h : bp_H) (n : Nat) : bp_H := (h.1, h.2.1, h.2.2 + n)
/-- whose an array is: a mark of ours -/
def bp_own (h : bp_H) (a o : Nat) : bp_H := (fun b => if b = a then ((h.1 b).1, (h.1 b).2.1, (h.1 b).2.2.1, o) else h.1 b, h.2.1, h.2.2)
theorem bp_R.own {G : bp_X} {h : bp_H} {H : Heap} {a o : Nat} : bp_R G (bp_own h a o) H ↔ bp_R G h H := by
  unfold bp_R
  have key : ∀ b : Nat, bp_at G ((bp_own h a o).1 b) ((bp_own h a o).2.1 b) b H ↔ bp_at G (h.1 b) (h.2.1 b) b H := by
    intro b
    unfold bp_own bp_at
    by_cases e : b = a <;> simp [e]
  constructor
  · rintro ⟨h1, h2⟩
    exact ⟨fun b => (key b).mp (h1 b), h2⟩
  · rintro ⟨h1, h2⟩
    exact ⟨fun b => (key b).mpr (h1 b), h2⟩
/-- behind a new cell -/
theorem bp_R.push {G : bp_X} {h : bp_H} {H H1 : Heap} {k : bp_K} {f : Nat → Value} {cell : Cell} {n : Nat} (hR : bp_R G h H) (hs : H1.size = H.size + 1) (hc : H1[H.size]? = some cell) (hq : ∀ q : Nat, q < H.size → H1[q]? = H[q]?)
    (hat : bp_at G k f H.size H1) (hn : 1 + cell.slots.size ≤ n) (hm : h.2.2 + n ≤ bp_max) : bp_R G (bp_new h H.size k f n) H1 ∧ (h.1 H.size).1 ≠ 1 ∧ (h.1 H.size).1 ≠ 2 := by
  obtain ⟨h1, h2, h3, h4⟩ := hR
  refine ⟨⟨fun a => ?_, ?_, hm, by omega⟩, fun e => ?_, fun e => ?_⟩
  · unfold bp_new
    by_cases e : a = H.size
    · subst e
      simpa using hat
    · simp only [e, if_false]
      by_cases e2 : (h.1 a).1 = 1 ∨ (h.1 a).1 = 2
      · exact (h1 a).kept (hq a ((h1 a).lt e2))
      · exact ⟨fun z => absurd (Or.inl z) e2, fun z => absurd (Or.inr z) e2⟩
  · show bp_us (bp_B G) H1 ≤ h.2.2 + n
    rw [bp_us_push h4 hs hc hq]
    omega
  · exact Nat.lt_irrefl _ ((h1 H.size).lt (Or.inl e))
  · exact Nat.lt_irrefl _ ((h1 H.size).lt (Or.inr e))
/-- behind a store in an object or an array -/
theorem bp_R.put {G : bp_X} {h : bp_H} {H H1 : Heap} {a k : Nat} {v : Value} (hR : bp_R G h H) (hs : H1.size = H.size) (hz : ∀ c c' : Cell, H[a]? = some c → H1[a]? = some c' → c'.slots.size = c.slots.size) (hq : ∀ q : Nat, q ≠ a → H1[q]? = H[q]?)
    (hat : bp_at G (h.1 a) (fun j => if j = k then v else h.2.1 a j) a H1) : bp_R G (bp_set h a k v) H1 := by
  obtain ⟨h1, h2, h3, h4⟩ := hR
  refine ⟨fun b => ?_, ?_, h3, by omega⟩
  · unfold bp_set
    by_cases e : b = a
    · subst e
      simpa using hat
    · simp only [e, false_and, if_false]
      exact (h1 b).kept (hq b e)
  · show bp_us (bp_B G) H1 ≤ h.2.2
    rw [bp_us_ext hs (fun q c c' e1 e2 => ?_)]
    · exact h2
    · by_cases e : q = a
      · subst e
        exact hz c c' e1 e2
      · rw [hq q e, e1] at e2
        cases e2
        rfl
theorem bp_R.more {G : bp_X} {h : bp_H} {H : Heap} {n : Nat} (hR : bp_R G h H) (hm : h.2.2 + n ≤ bp_max) : bp_R G (bp_more h n) H := ⟨hR.1, Nat.le_trans hR.2.1 (Nat.le_add_right _ _), hm, hR.2.2.2⟩

