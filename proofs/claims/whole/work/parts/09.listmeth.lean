/-! ===== calls that only return ===== -/
def bp_ret (v : Option Value) (h : bp_H) : bp_O → bp_H → Prop := fun o h' => o = .inl v ∧ h' = h
def bp_val (P : Option Value → bp_H → Prop) : bp_O → bp_H → Prop := fun o h' => ∃ v : Option Value, o = .inl v ∧ P v h'
section BPV
variable {G : bp_X} {M : bp_M} {d pc : Nat} {lv : List (Nat × Value)} {st st0 : List Value} {h : bp_H} {Φ : bp_O → bp_H → Prop} {M' : bp_M} {idx d' b ci N : Nat} {As : List Value} {C : String} {T : u_T}
theorem bp_ret_i {v : Option Value} : bp_ret v h (.inl v) h := ⟨rfl, rfl⟩
theorem bp_val_i {P : Option Value → bp_H → Prop} {v : Option Value} (hp : P v h) : bp_val P (.inl v) h := ⟨v, rfl, hp⟩
theorem bp_callVp {P : Option Value → bp_H → Prop} (hd : decode (bp_c M) pc = .ok (.invokevirtual idx, 3)) (hc : bp_cl[ci]? = some (C, T, N)) (hm : bp_MV (bp_own_ M) idx M' As.length C) (hk : (h.1 b).1 = 1 ∧ (h.1 b).2.1 = ci)
    (hM : bp_S G M' d' (.ref b :: As) h (bp_val P)) (hdd : d' + 1 ≤ d) (hn : bp_n M' ≤ 60) (hst : (st.map fun v => v.category).sum ≤ 8) (hst0 : st0 = As.reverse ++ .ref b :: st) (kk : ∀ (v : Option Value) (h' : bp_H), P v h' → bp_W G M d (pc + 3) lv (v.toList ++ st) h' Φ) : bp_W G M d pc lv st0 h Φ :=
  bp_callV hd hc hm hk hM hdd hn hst hst0 (fun v h' hp => by obtain ⟨w, e, hp⟩ := hp; cases e; exact kk _ _ hp) (fun E h' hp => by obtain ⟨w, e, hp⟩ := hp; cases e)
theorem bp_callVr {v : Option Value} {h1 : bp_H} (hd : decode (bp_c M) pc = .ok (.invokevirtual idx, 3)) (hc : bp_cl[ci]? = some (C, T, N)) (hm : bp_MV (bp_own_ M) idx M' As.length C) (hk : (h.1 b).1 = 1 ∧ (h.1 b).2.1 = ci)
    (hM : bp_S G M' d' (.ref b :: As) h (bp_ret v h1)) (hdd : d' + 1 ≤ d) (hn : bp_n M' ≤ 60) (hst : (st.map fun v => v.category).sum ≤ 8) (hst0 : st0 = As.reverse ++ .ref b :: st) (kk : bp_W G M d (pc + 3) lv (v.toList ++ st) h1 Φ) : bp_W G M d pc lv st0 h Φ :=
  bp_callV hd hc hm hk hM hdd hn hst hst0 (fun v h' hp => by obtain ⟨e, rfl⟩ := hp; cases e; exact kk) (fun E h' hp => by obtain ⟨e, -⟩ := hp; cases e)
theorem bp_callSp {P : Option Value → bp_H → Prop} (hd : decode (bp_c M) pc = .ok (.invokestatic idx, 3)) (hm : bp_MS (bp_own_ M) idx M' As.length)
    (hM : bp_S G M' d' As h (bp_val P)) (hdd : d' + 1 ≤ d) (hn : bp_n M' ≤ 60) (hst : (st.map fun v => v.category).sum ≤ 8) (hst0 : st0 = As.reverse ++ st) (kk : ∀ (v : Option Value) (h' : bp_H), P v h' → bp_W G M d (pc + 3) lv (v.toList ++ st) h' Φ) : bp_W G M d pc lv st0 h Φ :=
  bp_callS hd hm hM hdd hn hst hst0 (fun v h' hp => by obtain ⟨w, e, hp⟩ := hp; cases e; exact kk _ _ hp) (fun E h' hp => by obtain ⟨w, e, hp⟩ := hp; cases e)
theorem bp_callSr {v : Option Value} {h1 : bp_H} (hd : decode (bp_c M) pc = .ok (.invokestatic idx, 3)) (hm : bp_MS (bp_own_ M) idx M' As.length)
    (hM : bp_S G M' d' As h (bp_ret v h1)) (hdd : d' + 1 ≤ d) (hn : bp_n M' ≤ 60) (hst : (st.map fun v => v.category).sum ≤ 8) (hst0 : st0 = As.reverse ++ st) (kk : bp_W G M d (pc + 3) lv (v.toList ++ st) h1 Φ) : bp_W G M d pc lv st0 h Φ :=
  bp_callS hd hm hM hdd hn hst hst0 (fun v h' hp => by obtain ⟨e, rfl⟩ := hp; cases e; exact kk) (fun E h' hp => by obtain ⟨e, -⟩ := hp; cases e)
theorem bp_callIp {P : Option Value → bp_H → Prop} (hd : decode (bp_c M) pc = .ok (.invokespecial idx, 3)) (hm : bp_MI (bp_own_ M) idx M' As.length)
    (hM : bp_S G M' d' (.ref b :: As) h (bp_val P)) (hdd : d' + 1 ≤ d) (hn : bp_n M' ≤ 60) (hst : (st.map fun v => v.category).sum ≤ 8) (hst0 : st0 = As.reverse ++ .ref b :: st) (kk : ∀ (v : Option Value) (h' : bp_H), P v h' → bp_W G M d (pc + 3) lv (v.toList ++ st) h' Φ) : bp_W G M d pc lv st0 h Φ :=
  bp_callI hd hm hM hdd hn hst hst0 (fun v h' hp => by obtain ⟨w, e, hp⟩ := hp; cases e; exact kk _ _ hp) (fun E h' hp => by obtain ⟨w, e, hp⟩ := hp; cases e)
theorem bp_callIr {v : Option Value} {h1 : bp_H} (hd : decode (bp_c M) pc = .ok (.invokespecial idx, 3)) (hm : bp_MI (bp_own_ M) idx M' As.length)
    (hM : bp_S G M' d' (.ref b :: As) h (bp_ret v h1)) (hdd : d' + 1 ≤ d) (hn : bp_n M' ≤ 60) (hst : (st.map fun v => v.category).sum ≤ 8) (hst0 : st0 = As.reverse ++ .ref b :: st) (kk : bp_W G M d (pc + 3) lv (v.toList ++ st) h1 Φ) : bp_W G M d pc lv st0 h Φ :=
  bp_callI hd hm hM hdd hn hst hst0 (fun v h' hp => by obtain ⟨e, rfl⟩ := hp; cases e; exact kk) (fun E h' hp => by obtain ⟨e, -⟩ := hp; cases e)
end BPV
theorem bp_inc (i : Nat) : nI i + Int32.ofInt 1 = nI (i + 1) := nI_1 i
/-- the wanted locals, one by one -/
def bp_sub (lv : List (Nat × Value)) : List (Nat × Value) → Prop
  | [] => True
  | q :: r => lv.lookup q.1 = some q.2 ∧ bp_sub lv r
theorem bp_lvs {G : bp_X} {M : bp_M} {d pc : Nat} {lv lv' : List (Nat × Value)} {st : List Value} {h : bp_H} {Φ : bp_O → bp_H → Prop} (hl : bp_sub lv lv') (k : bp_W G M d pc lv' st h Φ) : bp_W G M d pc lv st h Φ := by
  refine bp_lv ?_ k
  intro q hq
  clear k
  induction lv' with
  | nil => cases hq
  | cons a r ih =>
    rcases List.mem_cons.mp hq with rfl | hq
    · exact hl.1
    · exact ih hl.2 hq
/-! ===== objects and lists in the heap ===== -/
/-- an object of class ci -/
def bp_ob (h : bp_H) (a ci : Nat) : Prop := h.1 a = (1, ci, 0, 0)
theorem bp_ob.k {h : bp_H} {a ci : Nat} (e : bp_ob h a ci) : (h.1 a).1 = 1 ∧ (h.1 a).2.1 = ci := by
  unfold bp_ob at e
  rw [e]
  exact ⟨rfl, rfl⟩
theorem bp_ob.new {h : bp_H} {a ci q n : Nat} {k : bp_K} {f : Nat → Value} (e : bp_ob h a ci) (hq : (h.1 q).1 ≠ 1) : bp_ob (bp_new h q k f n) a ci ∧ a ≠ q := by
  have hne : a ≠ q := fun z => by subst z; exact hq e.k.1
  exact ⟨by unfold bp_ob bp_new; simp only [hne, if_false]; exact e, hne⟩
theorem bp_new_at {h : bp_H} {q n : Nat} {k : bp_K} {f : Nat → Value} : (bp_new h q k f n).1 q = k := by simp [bp_new]
theorem bp_new_v {h : bp_H} {q n j : Nat} {k : bp_K} {f : Nat → Value} : (bp_new h q k f n).2.1 q j = f j := by simp [bp_new]
theorem bp_new_o {h : bp_H} {a q n j : Nat} {k : bp_K} {f : Nat → Value} (hne : a ≠ q) : (bp_new h q k f n).2.1 a j = h.2.1 a j := by simp [bp_new, hne]
theorem bp_new_k {h : bp_H} {a q n : Nat} {k : bp_K} {f : Nat → Value} (hne : a ≠ q) : (bp_new h q k f n).1 a = h.1 a := by simp [bp_new, hne]
def bp_el (h : bp_H) (x : Nat) : Prop := ∃ ci : Nat, ci < 3 ∧ bp_ob h x ci
/-- the room that a list with so many places may still take -/
def bp_pot (c : Nat) : Nat := if c = 0 then 84 else if c = 10 then 73 else if c = 15 then 57 else if c = 22 then 34 else 0
/-- at l stands a list of xs, with cp places -/
def bp_L (G : bp_X) (h : bp_H) (l : Nat) (xs : List Nat) (cp : Nat) : Prop :=
  bp_ob h l 7 ∧ (∃ mc : Int32, h.2.1 l 224 = .int mc) ∧ h.2.1 l 226 = .int (nI xs.length) ∧ (∀ x ∈ xs, bp_el h x) ∧ xs.length ≤ cp ∧
  ((cp = 0 ∧ h.2.1 l 225 = .ref (bp_e0 G)) ∨ ((cp = 10 ∨ cp = 15 ∨ cp = 22 ∨ cp = 33) ∧ ∃ e : Nat, h.2.1 l 225 = .ref e ∧ h.1 e = (2, 3, cp, l + 1) ∧ ∀ (i : Nat) (x : Nat), xs[i]? = some x → h.2.1 e (4096 + i) = .ref x))
/-- nothing but the list at l has changed, things may have come -/
def bp_Fr (l : Nat) (h h' : bp_H) : Prop := ∀ a : Nat, ((h.1 a).1 = 1 ∨ (h.1 a).1 = 2) → h'.1 a = h.1 a ∧ (a ≠ l → (h.1 a).2.2.2 ≠ l + 1 → ∀ k : Nat, h'.2.1 a k = h.2.1 a k)
theorem bp_Fr.rf {l : Nat} {h : bp_H} : bp_Fr l h h := fun _ _ => ⟨rfl, fun _ _ _ => rfl⟩
theorem bp_Fr.tr {l : Nat} {h h1 h2 : bp_H} (a : bp_Fr l h h1) (b : bp_Fr l h1 h2) : bp_Fr l h h2 := by
  intro q hq
  obtain ⟨a1, a2⟩ := a q hq
  obtain ⟨b1, b2⟩ := b q (by rw [a1]; exact hq)
  exact ⟨b1.trans a1, fun n1 n2 k => (b2 n1 (by rw [a1]; exact n2) k).trans (a2 n1 n2 k)⟩
theorem bp_Fr.ob {l : Nat} {h h' : bp_H} {a ci : Nat} (f : bp_Fr l h h') (o : bp_ob h a ci) : bp_ob h' a ci := by
  unfold bp_ob
  rw [(f a (Or.inl o.k.1)).1]
  exact o
theorem bp_Fr.get {l : Nat} {h h' : bp_H} {a ci : Nat} (f : bp_Fr l h h') (o : bp_ob h a ci) (hne : a ≠ l) (k : Nat) : h'.2.1 a k = h.2.1 a k := by
  refine (f a (Or.inl o.k.1)).2 hne ?_ k
  unfold bp_ob at o
  rw [o]
  exact (Nat.succ_ne_zero l).symm
theorem bp_ob.ne {h : bp_H} {a b ca cb : Nat} (x : bp_ob h a ca) (y : bp_ob h b cb) (e : ca ≠ cb) : a ≠ b := by
  intro z
  subst z
  unfold bp_ob at x y
  rw [x] at y
  cases y
  exact e rfl
theorem bp_Fr.el {l : Nat} {h h' : bp_H} {x : Nat} (f : bp_Fr l h h') (e : bp_el h x) : bp_el h' x := by
  obtain ⟨ci, h1, h2⟩ := e
  exact ⟨ci, h1, f.ob h2⟩
theorem bp_Fr.arr {l : Nat} {h h' : bp_H} {a ti n o : Nat} (f : bp_Fr l h h') (hk : h.1 a = (2, ti, n, o)) (hl : bp_ob h l 7) (ho : o ≠ l + 1) : h'.1 a = (2, ti, n, o) ∧ ∀ k : Nat, h'.2.1 a k = h.2.1 a k := by
  obtain ⟨f1, f2⟩ := f a (Or.inr (by rw [hk]))
  refine ⟨f1.trans hk, f2 ?_ (by rw [hk]; exact ho)⟩
  intro z
  subst z
  unfold bp_ob at hl
  rw [hk] at hl
  cases hl
theorem bp_Fr.L {G : bp_X} {l l' : Nat} {h h' : bp_H} {xs : List Nat} {cp : Nat} (f : bp_Fr l h h') (hl : bp_ob h l 7) (L : bp_L G h l' xs cp) (hne : l' ≠ l) : bp_L G h' l' xs cp := by
  obtain ⟨a1, ⟨mc, a2⟩, a3, a4, a5, a6⟩ := L
  refine ⟨f.ob a1, ⟨mc, by rw [f.get a1 hne]; exact a2⟩, by rw [f.get a1 hne]; exact a3, fun x hx => f.el (a4 x hx), a5, ?_⟩
  rcases a6 with ⟨b1, b2⟩ | ⟨b1, e, b2, b3, b4⟩
  · exact Or.inl ⟨b1, by rw [f.get a1 hne]; exact b2⟩
  · obtain ⟨g1, g2⟩ := f.arr b3 hl (by omega)
    exact Or.inr ⟨b1, e, by rw [f.get a1 hne]; exact b2, g1, fun i x hx => by rw [g2]; exact b4 i x hx⟩
/-- a field written of something that is no list -/
theorem bp_L.set {G : bp_X} {l : Nat} {h : bp_H} {xs : List Nat} {cp a k ci : Nat} {v : Value} (L : bp_L G h l xs cp) (o : bp_ob h a ci) (hci : ci ≠ 7) : bp_L G (bp_set h a k v) l xs cp := by
  obtain ⟨a1, ⟨mc, a2⟩, a3, a4, a5, a6⟩ := L
  have hne : l ≠ a := a1.ne o (Ne.symm hci)
  have key : ∀ j : Nat, (bp_set h a k v).2.1 l j = h.2.1 l j := fun j => by simp [bp_set, hne]
  refine ⟨a1, ⟨mc, by rw [key]; exact a2⟩, by rw [key]; exact a3, a4, a5, ?_⟩
  rcases a6 with ⟨b1, b2⟩ | ⟨b1, e, b2, b3, b4⟩
  · exact Or.inl ⟨b1, by rw [key]; exact b2⟩
  · have hne2 : e ≠ a := by
      intro z
      subst z
      unfold bp_ob at o
      rw [b3] at o
      cases o
    exact Or.inr ⟨b1, e, by rw [key]; exact b2, b3, fun i x hx => by rw [show (bp_set h a k v).2.1 e (4096 + i) = h.2.1 e (4096 + i) by simp [bp_set, hne2]]; exact b4 i x hx⟩
/-- an element of an array written that is no list's -/
theorem bp_L.seta {G : bp_X} {l : Nat} {h : bp_H} {xs : List Nat} {cp a k ti n : Nat} {v : Value} (L : bp_L G h l xs cp) (o : h.1 a = (2, ti, n, 0)) : bp_L G (bp_set h a k v) l xs cp := by
  obtain ⟨a1, ⟨mc, a2⟩, a3, a4, a5, a6⟩ := L
  have hne : l ≠ a := by
    intro z
    subst z
    unfold bp_ob at a1
    rw [o] at a1
    cases a1
  have key : ∀ j : Nat, (bp_set h a k v).2.1 l j = h.2.1 l j := fun j => by simp [bp_set, hne]
  refine ⟨a1, ⟨mc, by rw [key]; exact a2⟩, by rw [key]; exact a3, a4, a5, ?_⟩
  rcases a6 with ⟨b1, b2⟩ | ⟨b1, e, b2, b3, b4⟩
  · exact Or.inl ⟨b1, by rw [key]; exact b2⟩
  · have hne2 : e ≠ a := by
      intro z
      subst z
      rw [b3] at o
      cases o
    exact Or.inr ⟨b1, e, by rw [key]; exact b2, b3, fun i x hx => by rw [show (bp_set h a k v).2.1 e (4096 + i) = h.2.1 e (4096 + i) by simp [bp_set, hne2]]; exact b4 i x hx⟩
/-- something new -/
theorem bp_L.new {G : bp_X} {l : Nat} {h : bp_H} {xs : List Nat} {cp q n : Nat} {k : bp_K} {f : Nat → Value} (L : bp_L G h l xs cp) (h1 : (h.1 q).1 ≠ 1) (h2 : (h.1 q).1 ≠ 2) : bp_L G (bp_new h q k f n) l xs cp := by
  obtain ⟨a1, ⟨mc, a2⟩, a3, a4, a5, a6⟩ := L
  obtain ⟨o1, hne⟩ := a1.new (k := k) (f := f) (n := n) h1
  have key : ∀ j : Nat, (bp_new h q k f n).2.1 l j = h.2.1 l j := fun j => bp_new_o hne
  refine ⟨o1, ⟨mc, by rw [key]; exact a2⟩, by rw [key]; exact a3, fun x hx => ?_, a5, ?_⟩
  · obtain ⟨ci, c1, c2⟩ := a4 x hx
    exact ⟨ci, c1, (c2.new h1).1⟩
  rcases a6 with ⟨b1, b2⟩ | ⟨b1, e, b2, b3, b4⟩
  · exact Or.inl ⟨b1, by rw [key]; exact b2⟩
  · have hne2 : e ≠ q := fun z => by
      subst z
      exact h2 (by rw [b3])
    exact Or.inr ⟨b1, e, by rw [key]; exact b2, by rw [bp_new_k hne2]; exact b3, fun i x hx => by rw [bp_new_o hne2]; exact b4 i x hx⟩
theorem bp_L.le {G : bp_X} {l : Nat} {h : bp_H} {xs : List Nat} {cp : Nat} (L : bp_L G h l xs cp) : cp ≤ 33 := by
  obtain ⟨-, -, -, -, -, h6⟩ := L
  rcases h6 with ⟨e, -⟩ | ⟨e, -⟩ <;> omega
theorem bp_L.len {G : bp_X} {l : Nat} {h : bp_H} {xs : List Nat} {cp : Nat} (L : bp_L G h l xs cp) : xs.length < 2 ^ 31 := by
  have h1 := L.le
  have h2 := L.2.2.2.2.1
  omega

set_option maxRecDepth 100000 in
set_option maxHeartbeats 4000000 in
theorem s_J3_checkIndex_8e157 {G : bp_X} {h : bp_H} {i n : Nat} (hi : i < n) (hn : n < 2 ^ 31) : bp_S G mJ3_checkIndex_8e157 0 [.int (nI i), .int (nI n), .null] h (bp_ret (some (.int (nI i))) h) := by
  refine bp_ofW (by decide +kernel) rfl (Nat.le_of_ble_eq_true rfl) ?_
  refine bp_iload_n (i := 0) dJ3_checkIndex_8e157_0 rfl ?_
  refine bp_if_lt (tgt := 9) dJ3_checkIndex_8e157_1 (by decide) (fun c => absurd c (nI_pos (by omega))) (fun c_1 => ?_)
  refine bp_iload_n (i := 0) dJ3_checkIndex_8e157_4 rfl ?_
  refine bp_iload_n (i := 1) dJ3_checkIndex_8e157_5 rfl ?_
  refine bp_icmp_lt (tgt := 16) dJ3_checkIndex_8e157_6 (by decide) (fun c_6 => ?_) (fun c => absurd (nI_lt hi hn) c)
  refine bp_iload_n (i := 0) dJ3_checkIndex_8e157_16 rfl ?_
  exact bp_iret dJ3_checkIndex_8e157_17 rfl (by first | rfl | decide) bp_ret_i
set_option maxRecDepth 100000 in
set_option maxHeartbeats 4000000 in
theorem s_J15_checkIndex_7cf53 {G : bp_X} {h : bp_H} {i n : Nat} (hi : i < n) (hn : n < 2 ^ 31) : bp_S G mJ15_checkIndex_7cf53 1 [.int (nI i), .int (nI n)] h (bp_ret (some (.int (nI i))) h) := by
  refine bp_ofW (by decide +kernel) rfl (Nat.le_of_ble_eq_true rfl) ?_
  refine bp_iload_n (i := 0) dJ15_checkIndex_7cf53_0 rfl ?_
  refine bp_iload_n (i := 1) dJ15_checkIndex_7cf53_1 rfl ?_
  refine bp_null dJ15_checkIndex_7cf53_2 ?_
  refine bp_callSr dJ15_checkIndex_7cf53_3 ml_J15_105 (s_J3_checkIndex_8e157 hi hn) (by decide) (by decide) (Nat.le_of_ble_eq_true rfl) rfl ?_
  exact bp_iret dJ15_checkIndex_7cf53_6 rfl (by first | rfl | decide) bp_ret_i
set_option maxRecDepth 100000 in
set_option maxHeartbeats 4000000 in
theorem s_size {G : bp_X} {h : bp_H} {l : Nat} {xs : List Nat} {cp : Nat} (hL : bp_L G h l xs cp) : bp_S G mJx4a65c_size_8abf5 0 [.ref l] h (bp_ret (some (.int (nI xs.length))) h) := by
  have hk := hL.1.k
  have hs := hL.2.2.1
  refine bp_ofW (by decide +kernel) rfl (Nat.le_of_ble_eq_true rfl) ?_
  refine bp_aload_n (i := 0) dJx4a65c_size_8abf5_0 rfl ?_
  refine bp_getf dJx4a65c_size_8abf5_1 fl_Jx4a65c_48 (by first | assumption | exact ⟨by assumption, by assumption⟩) (by first | assumption | exact bp_rde | (refine bp_rdn (by decide) ?_; first | assumption | exact bp_rde | (refine bp_rdn (by decide) ?_; first | assumption | exact bp_rde | (refine bp_rdn (by decide) ?_; first | assumption | exact bp_rde | (refine bp_rdn (by decide) ?_; first | assumption | exact bp_rde))))) ?_
  exact bp_iret dJx4a65c_size_8abf5_4 rfl (by first | rfl | decide) bp_ret_i
set_option maxRecDepth 100000 in
set_option maxHeartbeats 4000000 in
theorem s_isEmpty {G : bp_X} {h : bp_H} {l : Nat} {xs : List Nat} {cp : Nat} (hL : bp_L G h l xs cp) (hlen : xs.length < 2 ^ 31) : bp_S G mJx4a65c_isEmpty_aae02 0 [.ref l] h (bp_ret (some (.int (if xs.length = 0 then nI 1 else nI 0))) h) := by
  have hk := hL.1.k
  have hs := hL.2.2.1
  refine bp_ofW (by decide +kernel) rfl (Nat.le_of_ble_eq_true rfl) ?_
  refine bp_aload_n (i := 0) dJx4a65c_isEmpty_aae02_0 rfl ?_
  refine bp_getf dJx4a65c_isEmpty_aae02_1 fl_Jx4a65c_48 (by first | assumption | exact ⟨by assumption, by assumption⟩) (by first | assumption | exact bp_rde | (refine bp_rdn (by decide) ?_; first | assumption | exact bp_rde | (refine bp_rdn (by decide) ?_; first | assumption | exact bp_rde | (refine bp_rdn (by decide) ?_; first | assumption | exact bp_rde | (refine bp_rdn (by decide) ?_; first | assumption | exact bp_rde))))) ?_
  refine bp_if_ne (tgt := 11) dJx4a65c_isEmpty_aae02_4 (by decide) (fun c_4 => ?_) (fun c_4 => ?_)
  · rw [if_neg (fun z => c_4 (by rw [z]; rfl))]
    refine bp_iconst (v := (nI 0)) dJx4a65c_isEmpty_aae02_11 (by decide) ?_
    exact bp_iret dJx4a65c_isEmpty_aae02_12 rfl (by first | rfl | decide) bp_ret_i
  · rw [if_pos (by have e9 := Classical.not_not.mp c_4; exact (nI_eq hlen (by decide)).mp e9)]
    refine bp_iconst (v := (nI 1)) dJx4a65c_isEmpty_aae02_7 (by decide) ?_
    refine bp_goto (tgt := 12) dJx4a65c_isEmpty_aae02_8 (by decide) ?_
    exact bp_iret dJx4a65c_isEmpty_aae02_12 rfl (by first | rfl | decide) bp_ret_i
set_option maxRecDepth 100000 in
set_option maxHeartbeats 4000000 in
theorem s_elementData {G : bp_X} {h : bp_H} {l : Nat} {xs : List Nat} {cp : Nat} {i x : Nat} (hL : bp_L G h l xs cp) (hx : xs[i]? = some x) : bp_S G mJx4a65c_elementData_915e3 0 [.ref l, .int (nI i)] h (bp_ret (some (.ref x)) h) := by
  have hk := hL.1.k
  have hi : i < xs.length := (List.getElem?_eq_some_iff.mp hx).1
  obtain ⟨-, -, -, -, hle, hor⟩ := hL
  rcases hor with ⟨rfl, -⟩ | ⟨hcp, e, he, hke, hel⟩
  · omega
  have hv := hel i x hx
  refine bp_ofW (by decide +kernel) rfl (Nat.le_of_ble_eq_true rfl) ?_
  refine bp_aload_n (i := 0) dJx4a65c_elementData_915e3_0 rfl ?_
  refine bp_getf dJx4a65c_elementData_915e3_1 fl_Jx4a65c_9 (by first | assumption | exact ⟨by assumption, by assumption⟩) (by first | assumption | exact bp_rde | (refine bp_rdn (by decide) ?_; first | assumption | exact bp_rde | (refine bp_rdn (by decide) ?_; first | assumption | exact bp_rde | (refine bp_rdn (by decide) ?_; first | assumption | exact bp_rde | (refine bp_rdn (by decide) ?_; first | assumption | exact bp_rde))))) ?_
  refine bp_iload_n (i := 1) dJx4a65c_elementData_915e3_4 rfl ?_
  refine bp_aald3 dJx4a65c_elementData_915e3_5 (by assumption) rfl (by omega) (by omega) (by first | assumption | exact bp_rde | (refine bp_rdn (by decide) ?_; first | assumption | exact bp_rde | (refine bp_rdn (by decide) ?_; first | assumption | exact bp_rde | (refine bp_rdn (by decide) ?_; first | assumption | exact bp_rde | (refine bp_rdn (by decide) ?_; first | assumption | exact bp_rde))))) ?_
  exact bp_aret dJx4a65c_elementData_915e3_6 rfl bp_ret_i
set_option maxRecDepth 100000 in
set_option maxHeartbeats 4000000 in
theorem s_get {G : bp_X} {h : bp_H} {l : Nat} {xs : List Nat} {cp : Nat} {i x : Nat} (hL : bp_L G h l xs cp) (hx : xs[i]? = some x) : bp_S G mJx4a65c_get_915e3 2 [.ref l, .int (nI i)] h (bp_ret (some (.ref x)) h) := by
  have hk := hL.1.k
  have hs := hL.2.2.1
  have hi : i < xs.length := (List.getElem?_eq_some_iff.mp hx).1
  have hcl : xs.length < 2 ^ 31 := bp_L.len hL
  refine bp_ofW (by decide +kernel) rfl (Nat.le_of_ble_eq_true rfl) ?_
  refine bp_iload_n (i := 1) dJx4a65c_get_915e3_0 rfl ?_
  refine bp_aload_n (i := 0) dJx4a65c_get_915e3_1 rfl ?_
  refine bp_getf dJx4a65c_get_915e3_2 fl_Jx4a65c_48 (by first | assumption | exact ⟨by assumption, by assumption⟩) (by first | assumption | exact bp_rde | (refine bp_rdn (by decide) ?_; first | assumption | exact bp_rde | (refine bp_rdn (by decide) ?_; first | assumption | exact bp_rde | (refine bp_rdn (by decide) ?_; first | assumption | exact bp_rde | (refine bp_rdn (by decide) ?_; first | assumption | exact bp_rde))))) ?_
  refine bp_callSr dJx4a65c_get_915e3_5 ml_Jx4a65c_118 (s_J15_checkIndex_7cf53 hi hcl) (by decide) (by decide) (Nat.le_of_ble_eq_true rfl) rfl ?_
  refine bp_pop dJx4a65c_get_915e3_8 rfl ?_
  refine bp_aload_n (i := 0) dJx4a65c_get_915e3_9 rfl ?_
  refine bp_iload_n (i := 1) dJx4a65c_get_915e3_10 rfl ?_
  refine bp_callVr (ci := 7) dJx4a65c_get_915e3_11 rfl ml_Jx4a65c_123 hk (s_elementData hL hx) (by decide) (by decide) (Nat.le_of_ble_eq_true rfl) rfl ?_
  exact bp_aret dJx4a65c_get_915e3_14 rfl bp_ret_i
