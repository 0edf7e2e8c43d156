/-! ===== calls that only return ===== -/
def bp_ret (v : Option Value) (h : bp_H) : bp_O → bp_H → Prop := fun o h' => o = .inl v ∧ h' = h
def bp_val (P : Option Value → bp_H → Prop) : bp_O → bp_H → Prop := fun o h' => ∃ v : Option Value, o = .inl v ∧ P v h'
section BPV
variable {G : bp_X} {M : bp_M} {d pc : Nat} {lv : List (Nat × Value)} {st st0 : List Value} {h : bp_H} {Φ : bp_O → bp_H → Prop} {M' : bp_M} {idx d' b ci N : Nat} {As : List Value} {C : String} {T : u_T}
theorem bp_ret_i {v : Option Value} : bp_ret v h (.inl v) h := ⟨rfl, rfl⟩
theorem bp_val_i {P : Option Value → bp_H → Prop} {v : Option Value} (hp : P v h) : bp_val P (.inl v) h := ⟨v, rfl, hp⟩
theorem bp_callVp {P : Option Value → bp_H → Prop} (hd : decode (bp_c M) pc = .ok (.invokevirtual idx, 3)) (hc : bp_cl[ci]? = some (C, T, N)) (hm : bp_MV (bp_own_ M) idx M' As.length C) (hk : (h.1 b).1 = 1 ∧ (h.1 b).2.1 = ci)
    (hM : bp_S G M' d' (.ref b :: As) h (bp_val P)) (hdd : d' + 1 ≤ d) (hn : bp_n M' ≤ 20) (hst : (st.map fun v => v.category).sum ≤ 8) (hst0 : st0 = As.reverse ++ .ref b :: st) (kk : ∀ (v : Option Value) (h' : bp_H), P v h' → bp_W G M d (pc + 3) lv (v.toList ++ st) h' Φ) : bp_W G M d pc lv st0 h Φ :=
  bp_callV hd hc hm hk hM hdd hn hst hst0 (fun v h' hp => by obtain ⟨w, e, hp⟩ := hp; cases e; exact kk _ _ hp) (fun E h' hp => by obtain ⟨w, e, hp⟩ := hp; cases e)
theorem bp_callVr {v : Option Value} {h1 : bp_H} (hd : decode (bp_c M) pc = .ok (.invokevirtual idx, 3)) (hc : bp_cl[ci]? = some (C, T, N)) (hm : bp_MV (bp_own_ M) idx M' As.length C) (hk : (h.1 b).1 = 1 ∧ (h.1 b).2.1 = ci)
    (hM : bp_S G M' d' (.ref b :: As) h (bp_ret v h1)) (hdd : d' + 1 ≤ d) (hn : bp_n M' ≤ 20) (hst : (st.map fun v => v.category).sum ≤ 8) (hst0 : st0 = As.reverse ++ .ref b :: st) (kk : bp_W G M d (pc + 3) lv (v.toList ++ st) h1 Φ) : bp_W G M d pc lv st0 h Φ :=
  bp_callV hd hc hm hk hM hdd hn hst hst0 (fun v h' hp => by obtain ⟨e, rfl⟩ := hp; cases e; exact kk) (fun E h' hp => by obtain ⟨e, -⟩ := hp; cases e)
theorem bp_callSp {P : Option Value → bp_H → Prop} (hd : decode (bp_c M) pc = .ok (.invokestatic idx, 3)) (hm : bp_MS (bp_own_ M) idx M' As.length)
    (hM : bp_S G M' d' As h (bp_val P)) (hdd : d' + 1 ≤ d) (hn : bp_n M' ≤ 20) (hst : (st.map fun v => v.category).sum ≤ 8) (hst0 : st0 = As.reverse ++ st) (kk : ∀ (v : Option Value) (h' : bp_H), P v h' → bp_W G M d (pc + 3) lv (v.toList ++ st) h' Φ) : bp_W G M d pc lv st0 h Φ :=
  bp_callS hd hm hM hdd hn hst hst0 (fun v h' hp => by obtain ⟨w, e, hp⟩ := hp; cases e; exact kk _ _ hp) (fun E h' hp => by obtain ⟨w, e, hp⟩ := hp; cases e)
theorem bp_callSr {v : Option Value} {h1 : bp_H} (hd : decode (bp_c M) pc = .ok (.invokestatic idx, 3)) (hm : bp_MS (bp_own_ M) idx M' As.length)
    (hM : bp_S G M' d' As h (bp_ret v h1)) (hdd : d' + 1 ≤ d) (hn : bp_n M' ≤ 20) (hst : (st.map fun v => v.category).sum ≤ 8) (hst0 : st0 = As.reverse ++ st) (kk : bp_W G M d (pc + 3) lv (v.toList ++ st) h1 Φ) : bp_W G M d pc lv st0 h Φ :=
  bp_callS hd hm hM hdd hn hst hst0 (fun v h' hp => by obtain ⟨e, rfl⟩ := hp; cases e; exact kk) (fun E h' hp => by obtain ⟨e, -⟩ := hp; cases e)
theorem bp_callIp {P : Option Value → bp_H → Prop} (hd : decode (bp_c M) pc = .ok (.invokespecial idx, 3)) (hm : bp_MI (bp_own_ M) idx M' As.length)
    (hM : bp_S G M' d' (.ref b :: As) h (bp_val P)) (hdd : d' + 1 ≤ d) (hn : bp_n M' ≤ 20) (hst : (st.map fun v => v.category).sum ≤ 8) (hst0 : st0 = As.reverse ++ .ref b :: st) (kk : ∀ (v : Option Value) (h' : bp_H), P v h' → bp_W G M d (pc + 3) lv (v.toList ++ st) h' Φ) : bp_W G M d pc lv st0 h Φ :=
  bp_callI hd hm hM hdd hn hst hst0 (fun v h' hp => by obtain ⟨w, e, hp⟩ := hp; cases e; exact kk _ _ hp) (fun E h' hp => by obtain ⟨w, e, hp⟩ := hp; cases e)
theorem bp_callIr {v : Option Value} {h1 : bp_H} (hd : decode (bp_c M) pc = .ok (.invokespecial idx, 3)) (hm : bp_MI (bp_own_ M) idx M' As.length)
    (hM : bp_S G M' d' (.ref b :: As) h (bp_ret v h1)) (hdd : d' + 1 ≤ d) (hn : bp_n M' ≤ 20) (hst : (st.map fun v => v.category).sum ≤ 8) (hst0 : st0 = As.reverse ++ .ref b :: st) (kk : bp_W G M d (pc + 3) lv (v.toList ++ st) h1 Φ) : bp_W G M d pc lv st0 h Φ :=
  bp_callI hd hm hM hdd hn hst hst0 (fun v h' hp => by obtain ⟨e, rfl⟩ := hp; cases e; exact kk) (fun E h' hp => by obtain ⟨e, -⟩ := hp; cases e)
end BPV
theorem bp_inc (i : Nat) : nI i + Int32.ofInt 1 = nI (i + 1) := nI_1 i
/-- the wanted locals, one by one -/
def bp_sub (lv : List (Nat × Value)) : List (Nat × Value) → Prop
  | [] => True
  | q :: r => lv.lookup q.1 = some q.2 ∧ bp_sub lv r
theorem bp_lvs {G : bp_X} {M : bp_M} {d pc : Nat} {lv lv' : List (Nat × Value)} {st : List Value} {h : bp_H} {Φ : bp_O → bp_H → Prop} (hl : bp_sub lv lv') (k : bp_W G M d pc lv' st h Φ) : bp_W G M d pc lv st h Φ := by
  refine bp_lv ?_ k
  intro q hq
  clear k
  induction lv' with
  | nil => cases hq
  | cons a r ih =>
    rcases List.mem_cons.mp hq with rfl | hq
    · exact hl.1
    · exact ih hl.2 hq
/-! ===== objects and lists in the heap ===== -/
/-- an object of class ci -/
def bp_ob (h : bp_H) (a ci : Nat) : Prop := h.1 a = (1, ci, 0, 0)
theorem bp_ob.k {h : bp_H} {a ci : Nat} (e : bp_ob h a ci) : (h.1 a).1 = 1 ∧ (h.1 a).2.1 = ci := by
  unfold bp_ob at e
  rw [e]
  exact ⟨rfl, rfl⟩
theorem bp_ob.new {h : bp_H} {a ci q n : Nat} {k : bp_K} {f : Nat → Value} (e : bp_ob h a ci) (hq : (h.1 q).1 ≠ 1) : bp_ob (bp_new h q k f n) a ci ∧ a ≠ q := by
  have hne : a ≠ q := fun z => by subst z; exact hq e.k.1
  exact ⟨by unfold bp_ob bp_new; simp only [hne, if_false]; exact e, hne⟩
theorem bp_new_at {h : bp_H} {q n : Nat} {k : bp_K} {f : Nat → Value} : (bp_new h q k f n).1 q = k := by simp [bp_new]
theorem bp_new_v {h : bp_H} {q n j : Nat} {k : bp_K} {f : Nat → Value} : (bp_new h q k f n).2.1 q j = f j := by simp [bp_new]
theorem bp_new_o {h : bp_H} {a q n j : Nat} {k : bp_K} {f : Nat → Value} (hne : a ≠ q) : (bp_new h q k f n).2.1 a j = h.2.1 a j := by simp [bp_new, hne]
theorem bp_new_k {h : bp_H} {a q n : Nat} {k : bp_K} {f : Nat → Value} (hne : a ≠ q) : (bp_new h q k f n).1 a = h.1 a := by simp [bp_new, hne]
def bp_el (h : bp_H) (x : Nat) : Prop := ∃ ci : Nat, ci < 3 ∧ bp_ob h x ci
/-- the room that a list with so many places may still take -/
def bp_pot (c : Nat) : Nat := if c = 0 then 84 else if c = 10 then 73 else if c = 15 then 57 else if c = 22 then 34 else 0
/-- at l stands a list of xs, with cp places -/
def bp_L (G : bp_X) (h : bp_H) (l : Nat) (xs : List Nat) (cp : Nat) : Prop :=
  bp_ob h l 7 ∧ (∃ mc : Int32, h.2.1 l 224 = .int mc) ∧ h.2.1 l 226 = .int (nI xs.length) ∧ (∀ x ∈ xs, bp_el h x) ∧ xs.length ≤ cp ∧
  ((cp = 0 ∧ h.2.1 l 225 = .ref (bp_e0 G)) ∨ ((cp = 10 ∨ cp = 15 ∨ cp = 22 ∨ cp = 33) ∧ ∃ e : Nat, h.2.1 l 225 = .ref e ∧ h.1 e = (2, 3, cp, l + 1) ∧ ∀ (i : Nat) (x : Nat), xs[i]? = some x → h.2.1 e (4096 + i) = .ref x))
/-- nothing but the list at l has changed, things may have come -/
def bp_Fr (l : Nat) (h h' : bp_H) : Prop := ∀ a : Nat, ((h.1 a).1 = 1 ∨ (h.1 a).1 = 2) → h'.1 a = h.1 a ∧ (a ≠ l → (h.1 a).2.2.2 ≠ l + 1 → ∀ k : Nat, h'.2.1 a k = h.2.1 a k)
theorem bp_Fr.rf {l : Nat} {h : bp_H} : bp_Fr l h h := fun _ _ => ⟨rfl, fun _ _ _ => rfl⟩
theorem bp_Fr.tr {l : Nat} {h h1 h2 : bp_H} (a : bp_Fr l h h1) (b : bp_Fr l h1 h2) : bp_Fr l h h2 := by
  intro q hq
  obtain ⟨a1, a2⟩ := a q hq
  obtain ⟨b1, b2⟩ := b q (by rw [a1]; exact hq)
  exact ⟨b1.trans a1, fun n1 n2 k => (b2 n1 (by rw [a1]; exact n2) k).trans (a2 n1 n2 k)⟩
theorem bp_Fr.ob {l : Nat} {h h' : bp_H} {a ci : Nat} (f : bp_Fr l h h') (o : bp_ob h a ci) : bp_ob h' a ci := by
  unfold bp_ob
  rw [(f a (Or.inl o.k.1)).1]
  exact o
theorem bp_Fr.get {l : Nat} {h h' : bp_H} {a ci : Nat} (f : bp_Fr l h h') (o : bp_ob h a ci) (hne : a ≠ l) (k : Nat) : h'.2.1 a k = h.2.1 a k := by
  refine (f a (Or.inl o.k.1)).2 hne ?_ k
  unfold bp_ob at o
  rw [o]
  exact (Nat.succ_ne_zero l).symm
theorem bp_ob.ne {h : bp_H} {a b ca cb : Nat} (x : bp_ob h a ca) (y : bp_ob h b cb) (e : ca ≠ cb) : a ≠ b := by
  intro z
  subst z
  unfold bp_ob at x y
  rw [x] at y
  cases y
  exact e rfl
theorem bp_Fr.el {l : Nat} {h h' : bp_H} {x : Nat} (f : bp_Fr l h h') (e : bp_el h x) : bp_el h' x := by
  obtain ⟨ci, h1, h2⟩ := e
  exact ⟨ci, h1, f.ob h2⟩
theorem bp_Fr.arr {l : Nat} {h h' : bp_H} {a ti n o : Nat} (f : bp_Fr l h h') (hk : h.1 a = (2, ti, n, o)) (hl : bp_ob h l 7) (ho : o ≠ l + 1) : h'.1 a = (2, ti, n, o) ∧ ∀ k : Nat, h'.2.1 a k = h.2.1 a k := by
  obtain ⟨f1, f2⟩ := f a (Or.inr (by rw [hk]))
  refine ⟨f1.trans hk, f2 ?_ (by rw [hk]; exact ho)⟩
  intro z
  subst z
  unfold bp_ob at hl
  rw [hk] at hl
  cases hl
theorem bp_Fr.L {G : bp_X} {l l' : Nat} {h h' : bp_H} {xs : List Nat} {cp : Nat} (f : bp_Fr l h h') (hl : bp_ob h l 7) (L : bp_L G h l' xs cp) (hne : l' ≠ l) : bp_L G h' l' xs cp := by
  obtain ⟨a1, ⟨mc, a2⟩, a3, a4, a5, a6⟩ := L
  refine ⟨f.ob a1, ⟨mc, by rw [f.get a1 hne]; exact a2⟩, by rw [f.get a1 hne]; exact a3, fun x hx => f.el (a4 x hx), a5, ?_⟩
  rcases a6 with ⟨b1, b2⟩ | ⟨b1, e, b2, b3, b4⟩
  · exact Or.inl ⟨b1, by rw [f.get a1 hne]; exact b2⟩
  · obtain ⟨g1, g2⟩ := f.arr b3 hl (by omega)
    exact Or.inr ⟨b1, e, by rw [f.get a1 hne]; exact b2, g1, fun i x hx => by rw [g2]; exact b4 i x hx⟩
/-- a field written of something that is no list -/
theorem bp_L.set {G : bp_X} {l : Nat} {h : bp_H} {xs : List Nat} {cp a k ci : Nat} {v : Value} (L : bp_L G h l xs cp) (o : bp_ob h a ci) (hci : ci ≠ 7) : bp_L G (bp_set h a k v) l xs cp := by
  obtain ⟨a1, ⟨mc, a2⟩, a3, a4, a5, a6⟩ := L
  have hne : l ≠ a := a1.ne o (Ne.symm hci)
  have key : ∀ j : Nat, (bp_set h a k v).2.1 l j = h.2.1 l j := fun j => by simp [bp_set, hne]
  refine ⟨a1, ⟨mc, by rw [key]; exact a2⟩, by rw [key]; exact a3, a4, a5, ?_⟩
  rcases a6 with ⟨b1, b2⟩ | ⟨b1, e, b2, b3, b4⟩
  · exact Or.inl ⟨b1, by rw [key]; exact b2⟩
  · have hne2 : e ≠ a := by
      intro z
      subst z
      unfold bp_ob at o
      rw [b3] at o
      cases o
    exact Or.inr ⟨b1, e, by rw [key]; exact b2, b3, fun i x hx => by rw [show (bp_set h a k v).2.1 e (4096 + i) = h.2.1 e (4096 + i) by simp [bp_set, hne2]]; exact b4 i x hx⟩
/-- an element of an array written that is no list's -/
theorem bp_L.seta {G : bp_X} {l : Nat} {h : bp_H} {xs : List Nat} {cp a k ti n : Nat} {v : Value} (L : bp_L G h l xs cp) (o : h.1 a = (2, ti, n, 0)) : bp_L G (bp_set h a k v) l xs cp := by
  obtain ⟨a1, ⟨mc, a2⟩, a3, a4, a5, a6⟩ := L
  have hne : l ≠ a := by
    intro z
    subst z
    unfold bp_ob at a1
    rw [o] at a1
    cases a1
  have key : ∀ j : Nat, (bp_set h a k v).2.1 l j = h.2.1 l j := fun j => by simp [bp_set, hne]
  refine ⟨a1, ⟨mc, by rw [key]; exact a2⟩, by rw [key]; exact a3, a4, a5, ?_⟩
  rcases a6 with ⟨b1, b2⟩ | ⟨b1, e, b2, b3, b4⟩
  · exact Or.inl ⟨b1, by rw [key]; exact b2⟩
  · have hne2 : e ≠ a := by
      intro z
      subst z
      rw [b3] at o
      cases o
    exact Or.inr ⟨b1, e, by rw [key]; exact b2, b3, fun i x hx => by rw [show (bp_set h a k v).2.1 e (4096 + i) = h.2.1 e (4096 + i) by simp [bp_set, hne2]]; exact b4 i x hx⟩
/-- something new -/
theorem bp_L.new {G : bp_X} {l : Nat} {h : bp_H} {xs : List Nat} {cp q n : Nat} {k : bp_K} {f : Nat → Value} (L : bp_L G h l xs cp) (h1 : (h.1 q).1 ≠ 1) (h2 : (h.1 q).1 ≠ 2) : bp_L G (bp_new h q k f n) l xs cp := by
  obtain ⟨a1, ⟨mc, a2⟩, a3, a4, a5, a6⟩ := L
  obtain ⟨o1, hne⟩ := a1.new (k := k) (f := f) (n := n) h1
  have key : ∀ j : Nat, (bp_new h q k f n).2.1 l j = h.2.1 l j := fun j => bp_new_o hne
  refine ⟨o1, ⟨mc, by rw [key]; exact a2⟩, by rw [key]; exact a3, fun x hx => ?_, a5, ?_⟩
  · obtain ⟨ci, c1, c2⟩ := a4 x hx
    exact ⟨ci, c1, (c2.new h1).1⟩
  rcases a6 with ⟨b1, b2⟩ | ⟨b1, e, b2, b3, b4⟩
  · exact Or.inl ⟨b1, by rw [key]; exact b2⟩
  · have hne2 : e ≠ q := fun z => by
      subst z
      exact h2 (by rw [b3])
    exact Or.inr ⟨b1, e, by rw [key]; exact b2, by rw [bp_new_k hne2]; exact b3, fun i x hx => by rw [bp_new_o hne2]; exact b4 i x hx⟩
theorem sw_1 : Cond.native arraycopyName ∈ bp_UW := bp_uw 295 (by decide +kernel) (by decide +kernel)
theorem sw_2 : Cond.static arraycopyName ∈ bp_UW := bp_uw 294 (by decide +kernel) (by decide +kernel)
theorem sw_3 : Cond.initialized "java/lang/System" ∈ bp_UW := bp_uw 37 (by decide +kernel) (by decide +kernel)
theorem sw_4 : Cond.selects "[Ljava/lang/Object;" bp_gC bp_gC ∈ bp_UW := bp_uw 748 (by decide +kernel) (by decide +kernel)
theorem sw_5 : Cond.instanceMethod bp_gC ∈ bp_UW := bp_uw 271 (by decide +kernel) (by decide +kernel)
theorem sw_6 : Cond.native bp_gC ∈ bp_UW := bp_uw 283 (by decide +kernel) (by decide +kernel)
theorem mc_J7_110 : Cond.classLink "java/util/Arrays" 110 "[Ljava/lang/Object;" ∈ bp_UW := bp_uw 287 (by decide +kernel) (by decide +kernel)
theorem bp_L.le {G : bp_X} {l : Nat} {h : bp_H} {xs : List Nat} {cp : Nat} (L : bp_L G h l xs cp) : cp ≤ 33 := by
  obtain ⟨-, -, -, -, -, h6⟩ := L
  rcases h6 with ⟨e, -⟩ | ⟨e, -⟩ <;> omega
theorem bp_L.len {G : bp_X} {l : Nat} {h : bp_H} {xs : List Nat} {cp : Nat} (L : bp_L G h l xs cp) : xs.length < 2 ^ 31 := by
  have h1 := L.le
  have h2 := L.2.2.2.2.1
  omega

set_option maxRecDepth 100000 in
set_option maxHeartbeats 400000 in
theorem s_J3_checkIndex_8e157 {G : bp_X} {h : bp_H} {i n : Nat} (hi : i < n) (hn : n < 2 ^ 31) : bp_S G mJ3_checkIndex_8e157 0 [.int (nI i), .int (nI n), .null] h (bp_ret (some (.int (nI i))) h) := by
  refine bp_ofW (by decide +kernel) rfl (Nat.le_of_ble_eq_true rfl) ?_
  refine bp_iload_n (i := 0) dJ3_checkIndex_8e157_0 rfl ?_
  refine bp_if_lt (tgt := 9) dJ3_checkIndex_8e157_1 (by decide) (fun z9_ => absurd z9_ (nI_pos (by omega))) (fun c_1 => ?_)
  refine bp_iload_n (i := 0) dJ3_checkIndex_8e157_4 rfl ?_
  refine bp_iload_n (i := 1) dJ3_checkIndex_8e157_5 rfl ?_
  refine bp_icmp_lt (tgt := 16) dJ3_checkIndex_8e157_6 (by decide) (fun c_6 => ?_) (fun z9_ => absurd (nI_lt hi hn) z9_)
  refine bp_iload_n (i := 0) dJ3_checkIndex_8e157_16 rfl ?_
  exact bp_iret dJ3_checkIndex_8e157_17 rfl (by first | rfl | decide) bp_ret_i
set_option maxRecDepth 100000 in
set_option maxHeartbeats 400000 in
theorem s_J15_checkIndex_7cf53 {G : bp_X} {h : bp_H} {i n : Nat} (hi : i < n) (hn : n < 2 ^ 31) : bp_S G mJ15_checkIndex_7cf53 1 [.int (nI i), .int (nI n)] h (bp_ret (some (.int (nI i))) h) := by
  refine bp_ofW (by decide +kernel) rfl (Nat.le_of_ble_eq_true rfl) ?_
  refine bp_iload_n (i := 0) dJ15_checkIndex_7cf53_0 rfl ?_
  refine bp_iload_n (i := 1) dJ15_checkIndex_7cf53_1 rfl ?_
  refine bp_null dJ15_checkIndex_7cf53_2 ?_
  refine bp_callSr dJ15_checkIndex_7cf53_3 ml_J15_105 (s_J3_checkIndex_8e157 hi hn) (by decide) (by decide) (Nat.le_of_ble_eq_true rfl) rfl ?_
  exact bp_iret dJ15_checkIndex_7cf53_6 rfl (by first | rfl | decide) bp_ret_i
set_option maxRecDepth 100000 in
set_option maxHeartbeats 400000 in
theorem s_size {G : bp_X} {h : bp_H} {l : Nat} {xs : List Nat} {cp : Nat} (hL : bp_L G h l xs cp) : bp_S G mJx4a65c_size_8abf5 0 [.ref l] h (bp_ret (some (.int (nI xs.length))) h) := by
  have hk := hL.1.k
  have hs := hL.2.2.1
  refine bp_ofW (by decide +kernel) rfl (Nat.le_of_ble_eq_true rfl) ?_
  refine bp_aload_n (i := 0) dJx4a65c_size_8abf5_0 rfl ?_
  refine bp_getf dJx4a65c_size_8abf5_1 fl_Jx4a65c_48 (by first | assumption | exact ⟨by assumption, by assumption⟩) (by first | assumption | exact bp_rde | (apply bp_rdn (by decide); first | assumption | exact bp_rde | (apply bp_rdn (by decide); first | assumption | exact bp_rde | (apply bp_rdn (by decide); first | assumption | exact bp_rde | (apply bp_rdn (by decide); first | assumption | exact bp_rde))))) ?_
  exact bp_iret dJx4a65c_size_8abf5_4 rfl (by first | rfl | decide) bp_ret_i
set_option maxRecDepth 100000 in
set_option maxHeartbeats 400000 in
theorem s_isEmpty {G : bp_X} {h : bp_H} {l : Nat} {xs : List Nat} {cp : Nat} (hL : bp_L G h l xs cp) (hlen : xs.length < 2 ^ 31) : bp_S G mJx4a65c_isEmpty_aae02 0 [.ref l] h (bp_ret (some (.int (if xs.length = 0 then nI 1 else nI 0))) h) := by
  have hk := hL.1.k
  have hs := hL.2.2.1
  refine bp_ofW (by decide +kernel) rfl (Nat.le_of_ble_eq_true rfl) ?_
  refine bp_aload_n (i := 0) dJx4a65c_isEmpty_aae02_0 rfl ?_
  refine bp_getf dJx4a65c_isEmpty_aae02_1 fl_Jx4a65c_48 (by first | assumption | exact ⟨by assumption, by assumption⟩) (by first | assumption | exact bp_rde | (apply bp_rdn (by decide); first | assumption | exact bp_rde | (apply bp_rdn (by decide); first | assumption | exact bp_rde | (apply bp_rdn (by decide); first | assumption | exact bp_rde | (apply bp_rdn (by decide); first | assumption | exact bp_rde))))) ?_
  refine bp_if_ne (tgt := 11) dJx4a65c_isEmpty_aae02_4 (by decide) (fun c_4 => ?_) (fun c_4 => ?_)
  · rw [if_neg (fun z => c_4 (by rw [z]; rfl))]
    refine bp_iconst (v := (nI 0)) dJx4a65c_isEmpty_aae02_11 (by decide) ?_
    exact bp_iret dJx4a65c_isEmpty_aae02_12 rfl (by first | rfl | decide) bp_ret_i
  · rw [if_pos ((nI_eq hlen (by decide)).mp (show nI xs.length = nI 0 from c_4))]
    refine bp_iconst (v := (nI 1)) dJx4a65c_isEmpty_aae02_7 (by decide) ?_
    refine bp_goto (tgt := 12) dJx4a65c_isEmpty_aae02_8 (by decide) ?_
    exact bp_iret dJx4a65c_isEmpty_aae02_12 rfl (by first | rfl | decide) bp_ret_i
set_option maxRecDepth 100000 in
set_option maxHeartbeats 400000 in
theorem s_elementData {G : bp_X} {h : bp_H} {l : Nat} {xs : List Nat} {cp : Nat} {i x : Nat} (hL : bp_L G h l xs cp) (hx : xs[i]? = some x) : bp_S G mJx4a65c_elementData_915e3 0 [.ref l, .int (nI i)] h (bp_ret (some (.ref x)) h) := by
  have hk := hL.1.k
  have hi : i < xs.length := (List.getElem?_eq_some_iff.mp hx).1
  obtain ⟨-, -, -, -, hle, hor⟩ := hL
  rcases hor with ⟨rfl, -⟩ | ⟨hcp, e, he, hke, hel⟩
  · omega
  have hv := hel i x hx
  refine bp_ofW (by decide +kernel) rfl (Nat.le_of_ble_eq_true rfl) ?_
  refine bp_aload_n (i := 0) dJx4a65c_elementData_915e3_0 rfl ?_
  refine bp_getf dJx4a65c_elementData_915e3_1 fl_Jx4a65c_9 (by first | assumption | exact ⟨by assumption, by assumption⟩) (by first | assumption | exact bp_rde | (apply bp_rdn (by decide); first | assumption | exact bp_rde | (apply bp_rdn (by decide); first | assumption | exact bp_rde | (apply bp_rdn (by decide); first | assumption | exact bp_rde | (apply bp_rdn (by decide); first | assumption | exact bp_rde))))) ?_
  refine bp_iload_n (i := 1) dJx4a65c_elementData_915e3_4 rfl ?_
  refine bp_aald3 dJx4a65c_elementData_915e3_5 (by assumption) rfl (by omega) (by omega) (by first | assumption | exact bp_rde | (apply bp_rdn (by decide); first | assumption | exact bp_rde | (apply bp_rdn (by decide); first | assumption | exact bp_rde | (apply bp_rdn (by decide); first | assumption | exact bp_rde | (apply bp_rdn (by decide); first | assumption | exact bp_rde))))) ?_
  exact bp_aret dJx4a65c_elementData_915e3_6 rfl bp_ret_i
set_option maxRecDepth 100000 in
set_option maxHeartbeats 400000 in
theorem s_get {G : bp_X} {h : bp_H} {l : Nat} {xs : List Nat} {cp : Nat} {i x : Nat} (hL : bp_L G h l xs cp) (hx : xs[i]? = some x) : bp_S G mJx4a65c_get_915e3 2 [.ref l, .int (nI i)] h (bp_ret (some (.ref x)) h) := by
  have hk := hL.1.k
  have hs := hL.2.2.1
  have hi : i < xs.length := (List.getElem?_eq_some_iff.mp hx).1
  have hcl : xs.length < 2 ^ 31 := bp_L.len hL
  refine bp_ofW (by decide +kernel) rfl (Nat.le_of_ble_eq_true rfl) ?_
  refine bp_iload_n (i := 1) dJx4a65c_get_915e3_0 rfl ?_
  refine bp_aload_n (i := 0) dJx4a65c_get_915e3_1 rfl ?_
  refine bp_getf dJx4a65c_get_915e3_2 fl_Jx4a65c_48 (by first | assumption | exact ⟨by assumption, by assumption⟩) (by first | assumption | exact bp_rde | (apply bp_rdn (by decide); first | assumption | exact bp_rde | (apply bp_rdn (by decide); first | assumption | exact bp_rde | (apply bp_rdn (by decide); first | assumption | exact bp_rde | (apply bp_rdn (by decide); first | assumption | exact bp_rde))))) ?_
  refine bp_callSr dJx4a65c_get_915e3_5 ml_Jx4a65c_118 (s_J15_checkIndex_7cf53 hi hcl) (by decide) (by decide) (Nat.le_of_ble_eq_true rfl) rfl ?_
  refine bp_pop dJx4a65c_get_915e3_8 rfl ?_
  refine bp_aload_n (i := 0) dJx4a65c_get_915e3_9 rfl ?_
  refine bp_iload_n (i := 1) dJx4a65c_get_915e3_10 rfl ?_
  refine bp_callVr (ci := 7) dJx4a65c_get_915e3_11 rfl ml_Jx4a65c_123 hk (s_elementData hL hx) (by decide) (by decide) (Nat.le_of_ble_eq_true rfl) rfl ?_
  exact bp_aret dJx4a65c_get_915e3_14 rfl bp_ret_i
theorem bp_Fr.setl {l k : Nat} {h : bp_H} {v : Value} : bp_Fr l h (bp_set h l k v) := fun a _ => ⟨rfl, fun hne _ j => by simp [bp_set, hne]⟩
theorem bp_Fr.sete {l k e : Nat} {h : bp_H} {v : Value} {ti n : Nat} (he : h.1 e = (2, ti, n, l + 1)) : bp_Fr l h (bp_set h e k v) := fun a _ => ⟨rfl, fun _ ho j => by
  have : a ≠ e := fun z => by
    subst z
    exact ho (by rw [he])
  simp [bp_set, this]⟩
theorem bp_Fr.cpye {l a0 e sp dp n : Nat} {h : bp_H} {ti m : Nat} (he : h.1 e = (2, ti, m, l + 1)) : bp_Fr l h (bp_cpy h a0 e sp dp n) := fun a _ => ⟨rfl, fun _ ho j => by
  have : a ≠ e := fun z => by
    subst z
    exact ho (by rw [he])
  simp [bp_cpy, this]⟩
theorem bp_Fr.newq {l q n : Nat} {h : bp_H} {k : bp_K} {f : Nat → Value} (h1 : (h.1 q).1 ≠ 1) (h2 : (h.1 q).1 ≠ 2) : bp_Fr l h (bp_new h q k f n) := fun a ha => by
  have hne : a ≠ q := fun z => by
    subst z
    rcases ha with e | e
    · exact h1 e
    · exact h2 e
  exact ⟨bp_new_k hne, fun _ _ j => bp_new_o hne⟩
theorem bp_Fr.ownq {l q : Nat} {h h' : bp_H} (f : bp_Fr l h h') (h1 : (h.1 q).1 ≠ 1) (h2 : (h.1 q).1 ≠ 2) : bp_Fr l h (bp_own h' q (l + 1)) := fun a ha => by
  have hne : a ≠ q := fun z => by
    subst z
    rcases ha with e | e
    · exact h1 e
    · exact h2 e
  obtain ⟨f1, f2⟩ := f a ha
  exact ⟨by unfold bp_own; simp only [hne, if_false]; exact f1, f2⟩
theorem bp_L.k {G : bp_X} {l : Nat} {h : bp_H} {xs : List Nat} {cp : Nat} (L : bp_L G h l xs cp) : (h.1 l).1 = 1 ∧ (h.1 l).2.1 = 7 := L.1.k
/-- the count of changes is no matter -/
theorem bp_L.mod {G : bp_X} {l : Nat} {h : bp_H} {xs : List Nat} {cp : Nat} (L : bp_L G h l xs cp) (m : Int32) : bp_L G (bp_set h l 224 (.int m)) l xs cp := by
  obtain ⟨a1, ⟨mc, a2⟩, a3, a4, a5, a6⟩ := L
  refine ⟨a1, ⟨m, bp_rde⟩, bp_rdn (by decide) a3, a4, a5, ?_⟩
  rcases a6 with ⟨b1, b2⟩ | ⟨b1, e, b2, b3, b4⟩
  · exact Or.inl ⟨b1, bp_rdn (by decide) b2⟩
  · exact Or.inr ⟨b1, e, bp_rdn (by decide) b2, b3, fun i x hx => bp_rdn (by omega) (b4 i x hx)⟩
/-- an element at the end -/
theorem bp_L.push {G : bp_X} {l q v : Nat} {h : bp_H} {xs : List Nat} {cp : Nat} (L : bp_L G h l xs cp) (hlt : xs.length < cp) (hq : h.2.1 l 225 = .ref q) (hv : bp_el h v) :
    h.1 q = (2, 3, cp, l + 1) ∧ bp_L G (bp_set (bp_set h q (4096 + xs.length) (.ref v)) l 226 (.int (nI (xs.length + 1)))) l (xs ++ [v]) cp ∧ bp_Fr l h (bp_set (bp_set h q (4096 + xs.length) (.ref v)) l 226 (.int (nI (xs.length + 1)))) := by
  obtain ⟨a1, ⟨mc, a2⟩, a3, a4, a5, a6⟩ := L
  rcases a6 with ⟨b1, b2⟩ | ⟨b1, e, b2, b3, b4⟩
  · omega
  rw [hq] at b2
  cases b2
  refine ⟨b3, ⟨a1, ⟨mc, bp_rdn (by decide) (bp_rdn (by omega) a2)⟩, by rw [bp_rde, List.length_append]; rfl, ?_, by rw [List.length_append]; show xs.length + 1 ≤ cp; omega, Or.inr ⟨b1, q, bp_rdn (by decide) (bp_rdn (by omega) hq), b3, ?_⟩⟩, (bp_Fr.sete b3).tr bp_Fr.setl⟩
  · intro x hx
    rcases List.mem_append.mp hx with hx | hx
    · exact a4 x hx
    · rw [List.mem_singleton.mp hx]; exact hv
  · intro i x hx
    refine bp_rdn (by omega) ?_
    by_cases e : i < xs.length
    · rw [List.getElem?_append_left e] at hx
      exact bp_rdn (by omega) (b4 i x hx)
    · rw [List.getElem?_append_right (by omega)] at hx
      have hz : i - xs.length < 1 := (List.getElem?_eq_some_iff.mp hx).1
      have e2 : i = xs.length := by omega
      subst e2
      simp only [Nat.sub_self, List.getElem?_cons_zero, Option.some.injEq] at hx
      subst hx
      exact bp_rde
/-- places come -/
theorem bp_L.grown {G : bp_X} {l q n u : Nat} {h : bp_H} {xs : List Nat} {cp : Nat} {h1 : bp_H} (L : bp_L G h l xs cp) (hlen : xs.length = cp) (f1 : (h.1 q).1 ≠ 1) (f2 : (h.1 q).1 ≠ 2) (hn : n = 10 ∨ n = 15 ∨ n = 22 ∨ n = 33) (hlt : cp < n)
    (k1 : h1.1 = (bp_new h q (2, 3, n, 0) (fun _ => .null) u).1) (k2 : ∀ a k : Nat, a ≠ q → h1.2.1 a k = h.2.1 a k) (k3 : ∀ (i x : Nat), xs[i]? = some x → h1.2.1 q (4096 + i) = .ref x) :
    bp_L G (bp_own (bp_set h1 l 225 (.ref q)) q (l + 1)) l xs n ∧ bp_Fr l h (bp_own (bp_set h1 l 225 (.ref q)) q (l + 1)) := by
  obtain ⟨a1, ⟨mc, a2⟩, a3, a4, a5, a6⟩ := L
  have hne : l ≠ q := fun z => by subst z; exact f1 a1.k.1
  have key : ∀ b : Nat, b ≠ q → (bp_own (bp_set h1 l 225 (.ref q)) q (l + 1)).1 b = h.1 b := by
    intro b hb
    unfold bp_own bp_set
    simp only [hb, if_false, k1, bp_new]
  have keyq : (bp_own (bp_set h1 l 225 (.ref q)) q (l + 1)).1 q = (2, 3, n, l + 1) := by
    unfold bp_own bp_set
    simp only [if_true, k1, bp_new]
  have val : ∀ k : Nat, k ≠ 225 → (bp_own (bp_set h1 l 225 (.ref q)) q (l + 1)).2.1 l k = h.2.1 l k := by
    intro k hk
    show (bp_set h1 l 225 (.ref q)).2.1 l k = _
    exact bp_rdn hk (k2 l k hne)
  have hob : ∀ {x ci : Nat}, bp_ob h x ci → bp_ob (bp_own (bp_set h1 l 225 (.ref q)) q (l + 1)) x ci := by
    intro x ci hx
    have hx2 : x ≠ q := fun z => by subst z; exact f1 hx.k.1
    unfold bp_ob
    rw [key x hx2]
    exact hx
  refine ⟨⟨hob a1, ⟨mc, by rw [val _ (by decide)]; exact a2⟩, by rw [val _ (by decide)]; exact a3, fun x hx => ?_, by omega, Or.inr ⟨hn, q, ?_, keyq, fun i x hx => ?_⟩⟩, ?_⟩
  · obtain ⟨ci, c1, c2⟩ := a4 x hx
    exact ⟨ci, c1, hob c2⟩
  · show (bp_set h1 l 225 (.ref q)).2.1 l 225 = _
    exact bp_rde
  · show (bp_set h1 l 225 (.ref q)).2.1 q (4096 + i) = _
    exact bp_rda (Ne.symm hne) (k3 i x hx)
  · intro b hb
    have hbq : b ≠ q := fun z => by
      subst z
      rcases hb with e | e
      · exact f1 e
      · exact f2 e
    refine ⟨key b hbq, fun n1 _ k => ?_⟩
    show (bp_set h1 l 225 (.ref q)).2.1 b k = _
    exact bp_rda n1 (k2 b k hbq)

theorem bp_max1 {n : Nat} (h1 : 1 ≤ n) (h2 : n < 2 ^ 31) : (if nI 1 < nI n then nI n else nI 1) = nI n := by
  by_cases e : n = 1
  · subst e; simp
  · rw [if_pos (nI_lt (by omega) h2)]
theorem bp_half {n : Nat} (h : n < 2 ^ 31) : nI n >>> (nI 1 &&& 31) = nI (n / 2) := by
  have k := pk_shrN (n := n) h (nI 1 &&& 31) 1 (by decide)
  rw [Nat.pow_one] at k
  exact k
theorem bp_any3 {ci : Nat} (h : ci < 3) : bp_any ci := by
  match ci, h with
  | 0, _ => exact an_0
  | 1, _ => exact an_1
  | 2, _ => exact an_2
theorem bp_cpy_in {h : bp_H} {a0 a n i : Nat} (hi : i < n) : (bp_cpy h a0 a 0 0 n).2.1 a (4096 + i) = h.2.1 a0 (4096 + i) := by
  unfold bp_cpy
  show (if a = a ∧ 4096 + 0 ≤ 4096 + i ∧ 4096 + i < 4096 + 0 + n then _ else _) = _
  rw [if_pos ⟨rfl, by omega, by omega⟩]
  have e9 : 4096 + (0 + (4096 + i - (4096 + 0))) = 4096 + i := by omega
  rw [e9]
theorem bp_cpy_out {h : bp_H} {a0 a b sp dp n k : Nat} (hne : b ≠ a) : (bp_cpy h a0 a sp dp n).2.1 b k = h.2.1 b k := by simp [bp_cpy, hne]

set_option maxRecDepth 100000 in
set_option maxHeartbeats 400000 in
theorem s_newLength {G : bp_X} {h : bp_H} {c : Nat} (h1 : 2 ≤ c) (h2 : c ≤ 1000) : bp_S G mJ8_newLength_cabcc 1 [.int (nI c), .int (nI 1), .int (nI (c / 2))] h (bp_ret (some (.int (nI (c + c / 2)))) h) := by
  refine bp_ofW (by decide +kernel) rfl (Nat.le_of_ble_eq_true rfl) ?_
  refine bp_iload_n (i := 0) dJ8_newLength_cabcc_0 rfl ?_
  refine bp_iload_n (i := 1) dJ8_newLength_cabcc_1 rfl ?_
  refine bp_iload_n (i := 2) dJ8_newLength_cabcc_2 rfl ?_
  refine bp_mmax dJ8_newLength_cabcc_3 ⟨ml_J8_194, mw_max⟩ (by decide) (Nat.le_of_ble_eq_true rfl) ?_
  rw [show (if nI 1 < nI (c / 2) then nI (c / 2) else nI 1) = nI (c / 2) from bp_max1 (by omega) (by omega)]
  refine bp_iadd dJ8_newLength_cabcc_6 ?_
  rw [nI_add]
  refine bp_istore_n (i := 3) dJ8_newLength_cabcc_7 (by decide) ?_
  refine bp_iconst (v := (nI 0)) dJ8_newLength_cabcc_8 (by decide) ?_
  refine bp_iload_n (i := 3) dJ8_newLength_cabcc_9 rfl ?_
  refine bp_icmp_ge (tgt := 21) dJ8_newLength_cabcc_10 (by decide) (fun z9_ => absurd z9_ (fun z => absurd ((nI_leI (by omega) (by omega)).mp z) (by omega))) (fun c_10 => ?_)
  refine bp_iload_n (i := 3) dJ8_newLength_cabcc_13 rfl ?_
  refine bp_ldc dJ8_newLength_cabcc_14 kc_J8_200 ?_
  refine bp_icmp_gt (tgt := 21) dJ8_newLength_cabcc_16 (by decide) (fun z9_ => absurd z9_ (show ¬ nI 2147483639 < nI (c + c / 2) from nI_nlt (by omega) (by decide))) (fun c_16 => ?_)
  refine bp_iload_n (i := 3) dJ8_newLength_cabcc_19 rfl ?_
  exact bp_iret dJ8_newLength_cabcc_20 rfl (by first | rfl | decide) bp_ret_i
set_option maxRecDepth 100000 in
set_option maxHeartbeats 400000 in
theorem s_copyOf3 {G : bp_X} {h : bp_H} {e c n w : Nat} (hk : h.1 e = (2, 3, c, w)) (hcn : c ≤ n) (hn : n ≤ 1000) (hm : h.2.2 + (1 + n) ≤ bp_max) (hel : ∀ i : Nat, i < c → ∃ y : Nat, h.2.1 e (4096 + i) = .ref y ∧ bp_el h y) : bp_S G mJ7_copyOf_6403c 1 [.ref e, .int (nI n), .ref (bp_mi G)] h (bp_val (fun v h1 => ∃ q : Nat, v = some (.ref q) ∧ (h.1 q).1 ≠ 1 ∧ (h.1 q).1 ≠ 2 ∧ h1 = (bp_cpy (bp_new h q (2, 3, n, 0) (fun _ => .null) (1 + n)) e q 0 0 c))) := by
  refine bp_ofW (by decide +kernel) rfl (Nat.le_of_ble_eq_true rfl) ?_
  refine bp_aload_n (i := 2) dJ7_copyOf_6403c_0 rfl ?_
  refine bp_ldcM dJ7_copyOf_6403c_1 mc_J7_110 ?_
  refine bp_acmp_ne (rx := some (bp_mi G)) (ry := some (bp_mi G)) (tgt := 13) dJ7_copyOf_6403c_3 (by decide) (fun z9_ => absurd z9_ (fun z => z rfl)) (fun c_3 => ?_)
  refine bp_iload_n (i := 1) dJ7_copyOf_6403c_6 rfl ?_
  refine bp_newO dJ7_copyOf_6403c_7 cl_J7_2 rfl hn hm (fun q f1 f2 hB => ?_)
  refine bp_goto (tgt := 24) dJ7_copyOf_6403c_10 (by decide) ?_
  refine bp_astore_n (i := 3) dJ7_copyOf_6403c_24 (by decide) ?_
  have hne : e ≠ q := fun z => by subst z; exact f2 (by rw [hk])
  have hk9 : (bp_new h q (2, 3, n, 0) (fun _ => .null) (1 + n)).1 e = (2, 3, c, w) := by rw [bp_new_k hne]; exact hk
  refine bp_aload_n (i := 0) dJ7_copyOf_6403c_25 rfl ?_
  refine bp_iconst (v := (nI 0)) dJ7_copyOf_6403c_26 (by decide) ?_
  refine bp_aload_n (i := 3) dJ7_copyOf_6403c_27 rfl ?_
  refine bp_iconst (v := (nI 0)) dJ7_copyOf_6403c_28 (by decide) ?_
  refine bp_aload_n (i := 0) dJ7_copyOf_6403c_29 rfl ?_
  refine bp_alen dJ7_copyOf_6403c_30 (by exact hk9) ?_
  refine bp_iload_n (i := 1) dJ7_copyOf_6403c_31 rfl ?_
  refine bp_mmin dJ7_copyOf_6403c_32 ⟨ml_J7_304, mw_min⟩ (by decide) (Nat.le_of_ble_eq_true rfl) ?_
  rw [show (if nI n < nI c then nI n else nI c) = nI c from if_neg (nI_nlt hcn (by omega))]
  refine bp_copyO (n1 := n) (o1 := 0) dJ7_copyOf_6403c_35 ⟨ml_J7_150, sw_1, sw_2, sw_3⟩ hk9 bp_new_at rfl rfl rfl (by omega) (by omega) (by omega) (by omega) (fun i hi => ?_) (by decide) (Nat.le_of_ble_eq_true rfl) ?_
  · obtain ⟨y, hy, ci, hci, hob⟩ := hel i hi
    refine Or.inr ⟨y, ci, by rw [bp_new_o hne, Nat.zero_add]; exact hy, bp_any3 hci, ?_⟩
    exact ((hob.new f1).1).k
  refine bp_aload_n (i := 3) dJ7_copyOf_6403c_38 rfl ?_
  exact bp_aretA dJ7_copyOf_6403c_39 rfl (bp_val_i ⟨q, rfl, f1, f2, rfl⟩)
set_option maxRecDepth 100000 in
set_option maxHeartbeats 400000 in
theorem s_copyOf2 {G : bp_X} {h : bp_H} {e c n w : Nat} (hk : h.1 e = (2, 3, c, w)) (hcn : c ≤ n) (hn : n ≤ 1000) (hm : h.2.2 + (1 + n) ≤ bp_max) (hel : ∀ i : Nat, i < c → ∃ y : Nat, h.2.1 e (4096 + i) = .ref y ∧ bp_el h y) : bp_S G mJ7_copyOf_1904c 2 [.ref e, .int (nI n)] h (bp_val (fun v h1 => ∃ q : Nat, v = some (.ref q) ∧ (h.1 q).1 ≠ 1 ∧ (h.1 q).1 ≠ 2 ∧ h1 = (bp_cpy (bp_new h q (2, 3, n, 0) (fun _ => .null) (1 + n)) e q 0 0 c))) := by
  refine bp_ofW (by decide +kernel) rfl (Nat.le_of_ble_eq_true rfl) ?_
  refine bp_aload_n (i := 0) dJ7_copyOf_1904c_0 rfl ?_
  refine bp_iload_n (i := 1) dJ7_copyOf_1904c_1 rfl ?_
  refine bp_aload_n (i := 0) dJ7_copyOf_1904c_2 rfl ?_
  refine bp_getC dJ7_copyOf_1904c_3 ⟨ml_J7_86, sw_4, sw_5, sw_6⟩ hk (by decide) (Nat.le_of_ble_eq_true rfl) ?_
  refine bp_callSp dJ7_copyOf_1904c_6 ml_J7_300 (s_copyOf3 hk hcn hn hm hel) (by decide) (by decide) (Nat.le_of_ble_eq_true rfl) rfl (fun v_6 h_6 p_6 => ?_)
  obtain ⟨q, rfl, f1, f2, rfl⟩ := p_6
  exact bp_aretA dJ7_copyOf_1904c_9 rfl (bp_val_i ⟨q, rfl, f1, f2, rfl⟩)
set_option maxRecDepth 100000 in
set_option maxHeartbeats 400000 in
theorem s_grow1 {G : bp_X} {h : bp_H} {l : Nat} {xs : List Nat} {cp : Nat} (hL : bp_L G h l xs cp) (hlen : xs.length = cp) (hlt : cp < 33) (hm : h.2.2 + bp_pot cp ≤ bp_max) : bp_S G mJx4a65c_grow_92f84 3 [.ref l, .int (nI (xs.length + 1))] h (bp_val (fun v h1 => ∃ q n : Nat, v = some (.ref q) ∧ bp_L G h1 l xs n ∧ xs.length < n ∧ h1.2.1 l 225 = .ref q ∧ bp_Fr l h h1 ∧ h1.2.2 + bp_pot n ≤ h.2.2 + bp_pot cp)) := by
  have hk := hL.1.k
  have hL0 := hL
  obtain ⟨-, -, -, hels, -, hor⟩ := hL0
  rcases hor with ⟨rfl, he⟩ | ⟨hcp, e, he, hke, hel⟩
  · refine bp_ofW (by decide +kernel) rfl (Nat.le_of_ble_eq_true rfl) ?_
    refine bp_aload_n (i := 0) dJx4a65c_grow_92f84_0 rfl ?_
    refine bp_getf dJx4a65c_grow_92f84_1 fl_Jx4a65c_9 (by first | assumption | exact ⟨by assumption, by assumption⟩) (by first | assumption | exact bp_rde | (apply bp_rdn (by decide); first | assumption | exact bp_rde | (apply bp_rdn (by decide); first | assumption | exact bp_rde | (apply bp_rdn (by decide); first | assumption | exact bp_rde | (apply bp_rdn (by decide); first | assumption | exact bp_rde))))) ?_
    refine bp_elen dJx4a65c_grow_92f84_4  ?_
    refine bp_istore_n (i := 2) dJx4a65c_grow_92f84_5 (by decide) ?_
    refine bp_iload_n (i := 2) dJx4a65c_grow_92f84_6 rfl ?_
    refine bp_if_gt (tgt := 20) dJx4a65c_grow_92f84_7 (by decide) (fun z9_ => absurd z9_ (by decide)) (fun c_7 => ?_)
    refine bp_aload_n (i := 0) dJx4a65c_grow_92f84_10 rfl ?_
    refine bp_getf dJx4a65c_grow_92f84_11 fl_Jx4a65c_9 (by first | assumption | exact ⟨by assumption, by assumption⟩) (by first | assumption | exact bp_rde | (apply bp_rdn (by decide); first | assumption | exact bp_rde | (apply bp_rdn (by decide); first | assumption | exact bp_rde | (apply bp_rdn (by decide); first | assumption | exact bp_rde | (apply bp_rdn (by decide); first | assumption | exact bp_rde))))) ?_
    refine bp_getE dJx4a65c_grow_92f84_14 gs_Jx4a65c_39 ?_
    refine bp_acmp_eq (rx := some (bp_e0 G)) (ry := some (bp_e0 G)) (tgt := 45) dJx4a65c_grow_92f84_17 (by decide) (fun c_17 => ?_) (fun z9_ => absurd rfl z9_)
    refine bp_aload_n (i := 0) dJx4a65c_grow_92f84_45 rfl ?_
    refine bp_bipush (v := (nI 10)) dJx4a65c_grow_92f84_46 (by decide) ?_
    refine bp_iload_n (i := 1) dJx4a65c_grow_92f84_48 rfl ?_
    refine bp_mmax dJx4a65c_grow_92f84_49 ⟨ml_Jx4a65c_79, mw_max⟩ (by decide) (Nat.le_of_ble_eq_true rfl) ?_
    rw [show (if nI 10 < nI (xs.length + 1) then nI (xs.length + 1) else nI 10) = nI 10 from if_neg (nI_nlt (by omega) (by decide))]
    refine bp_newO dJx4a65c_grow_92f84_52 cl_Jx4a65c_7 rfl (by omega) (by unfold bp_pot at hm; simp at hm; omega) (fun q f1 f2 hB => ?_)
    refine bp_dup_x1 dJx4a65c_grow_92f84_55 rfl rfl ?_
    refine bp_putf dJx4a65c_grow_92f84_56 fl_Jx4a65c_9 (Or.inl rfl) (by exact ((hL.1).new f1).1.k) (by first | rfl | decide) (by first | rfl | decide) ?_
    obtain ⟨g1, g2⟩ := hL.grown (u := 1 + 10) (n := 10) (h1 := (bp_new h q (2, 3, 10, 0) (fun _ => .null) (1 + 10))) hlen f1 f2 (Or.inl rfl) (by omega) rfl (fun a k hne => bp_new_o hne) (fun i x hx => by have := (List.getElem?_eq_some_iff.mp hx).1; omega)
    refine bp_heap (fun H hR => (bp_R.own (o := l + 1) (a := q)).mpr hR) ?_
    exact bp_aretA dJx4a65c_grow_92f84_59 rfl (bp_val_i ⟨q, 10, rfl, g1, by omega, (show (bp_set _ l 225 (.ref q)).2.1 l 225 = _ from bp_rde), g2, by show h.2.2 + (1 + 10) + bp_pot 10 ≤ h.2.2 + bp_pot 0; rw [show bp_pot 10 = 73 from rfl, show bp_pot 0 = 84 from rfl]; omega⟩)
  · have hpot : 1 + (cp + cp / 2) + bp_pot (cp + cp / 2) ≤ bp_pot cp := by
      rcases hcp with rfl | rfl | rfl | rfl
      · decide
      · decide
      · decide
      · omega
    refine bp_ofW (by decide +kernel) rfl (Nat.le_of_ble_eq_true rfl) ?_
    refine bp_aload_n (i := 0) dJx4a65c_grow_92f84_0 rfl ?_
    refine bp_getf dJx4a65c_grow_92f84_1 fl_Jx4a65c_9 (by first | assumption | exact ⟨by assumption, by assumption⟩) (by first | assumption | exact bp_rde | (apply bp_rdn (by decide); first | assumption | exact bp_rde | (apply bp_rdn (by decide); first | assumption | exact bp_rde | (apply bp_rdn (by decide); first | assumption | exact bp_rde | (apply bp_rdn (by decide); first | assumption | exact bp_rde))))) ?_
    refine bp_alen dJx4a65c_grow_92f84_4 (by assumption) ?_
    refine bp_istore_n (i := 2) dJx4a65c_grow_92f84_5 (by decide) ?_
    refine bp_iload_n (i := 2) dJx4a65c_grow_92f84_6 rfl ?_
    refine bp_if_gt (tgt := 20) dJx4a65c_grow_92f84_7 (by decide) (fun c_7 => ?_) (fun z9_ => absurd (show (0 : Int32) < nI cp from nI_lt (a := 0) (by omega) (by omega)) z9_)
    refine bp_iload_n (i := 2) dJx4a65c_grow_92f84_20 rfl ?_
    refine bp_iload_n (i := 1) dJx4a65c_grow_92f84_21 rfl ?_
    refine bp_iload_n (i := 2) dJx4a65c_grow_92f84_22 rfl ?_
    refine bp_isub dJx4a65c_grow_92f84_23 ?_
    rw [show nI (xs.length + 1) - nI cp = nI 1 by rw [hlen, pk_sub (by omega)]; congr 1; omega]
    refine bp_iload_n (i := 2) dJx4a65c_grow_92f84_24 rfl ?_
    refine bp_iconst (v := (nI 1)) dJx4a65c_grow_92f84_25 (by decide) ?_
    refine bp_ishr dJx4a65c_grow_92f84_26 ?_
    rw [show nI cp >>> (nI 1 &&& 31) = nI (cp / 2) from bp_half (by omega)]
    refine bp_callSr dJx4a65c_grow_92f84_27 ml_Jx4a65c_73 (s_newLength (c := cp) (by omega) (by omega)) (by decide) (by decide) (Nat.le_of_ble_eq_true rfl) rfl ?_
    refine bp_istore_n (i := 3) dJx4a65c_grow_92f84_30 (by decide) ?_
    refine bp_aload_n (i := 0) dJx4a65c_grow_92f84_31 rfl ?_
    refine bp_aload_n (i := 0) dJx4a65c_grow_92f84_32 rfl ?_
    refine bp_getf dJx4a65c_grow_92f84_33 fl_Jx4a65c_9 (by first | assumption | exact ⟨by assumption, by assumption⟩) (by first | assumption | exact bp_rde | (apply bp_rdn (by decide); first | assumption | exact bp_rde | (apply bp_rdn (by decide); first | assumption | exact bp_rde | (apply bp_rdn (by decide); first | assumption | exact bp_rde | (apply bp_rdn (by decide); first | assumption | exact bp_rde))))) ?_
    refine bp_iload_n (i := 3) dJx4a65c_grow_92f84_36 rfl ?_
    refine bp_callSp dJx4a65c_grow_92f84_37 ml_Jx4a65c_66 (s_copyOf2 (n := cp + cp / 2) hke (by omega) (by omega) (by omega) (fun i hi => ⟨xs[i], hel i _ (List.getElem?_eq_getElem (by omega)), hels _ (List.getElem_mem _)⟩)) (by decide) (by decide) (Nat.le_of_ble_eq_true rfl) rfl (fun v_37 h_37 p_37 => ?_)
    obtain ⟨q, rfl, f1, f2, rfl⟩ := p_37
    refine bp_dup_x1 dJx4a65c_grow_92f84_40 rfl rfl ?_
    refine bp_putf dJx4a65c_grow_92f84_41 fl_Jx4a65c_9 (Or.inl rfl) (by exact ((hL.1).new (k := (2, 3, cp + cp / 2, 0)) (f := fun _ => .null) (n := 1 + (cp + cp / 2)) f1).1.k) (by first | rfl | decide) (by first | rfl | decide) ?_
    obtain ⟨g1, g2⟩ := hL.grown (u := 1 + (cp + cp / 2)) (n := cp + cp / 2) (h1 := bp_cpy (bp_new h q (2, 3, cp + cp / 2, 0) (fun _ => .null) (1 + (cp + cp / 2))) e q 0 0 cp) hlen f1 f2 (by omega) (by omega) rfl (fun a k hne => (bp_cpy_out hne).trans (bp_new_o hne)) (fun i x hx => by
      have hi := (List.getElem?_eq_some_iff.mp hx).1
      have hne : e ≠ q := fun z => by subst z; exact f2 (by rw [hke])
      rw [bp_cpy_in (by omega), bp_new_o hne]; exact hel i x hx)
    refine bp_heap (fun H hR => (bp_R.own (o := l + 1) (a := q)).mpr hR) ?_
    exact bp_aretA dJx4a65c_grow_92f84_44 rfl (bp_val_i ⟨q, cp + cp / 2, rfl, g1, by omega, (show (bp_set _ l 225 (.ref q)).2.1 l 225 = _ from bp_rde), g2, by show h.2.2 + (1 + (cp + cp / 2)) + bp_pot (cp + cp / 2) ≤ _; omega⟩)
set_option maxRecDepth 100000 in
set_option maxHeartbeats 400000 in
theorem s_grow0 {G : bp_X} {h : bp_H} {l : Nat} {xs : List Nat} {cp : Nat} (hL : bp_L G h l xs cp) (hlen : xs.length = cp) (hlt : cp < 33) (hm : h.2.2 + bp_pot cp ≤ bp_max) : bp_S G mJx4a65c_grow_d5877 4 [.ref l] h (bp_val (fun v h1 => ∃ q n : Nat, v = some (.ref q) ∧ bp_L G h1 l xs n ∧ xs.length < n ∧ h1.2.1 l 225 = .ref q ∧ bp_Fr l h h1 ∧ h1.2.2 + bp_pot n ≤ h.2.2 + bp_pot cp)) := by
  have hk := hL.1.k
  have hs := hL.2.2.1
  refine bp_ofW (by decide +kernel) rfl (Nat.le_of_ble_eq_true rfl) ?_
  refine bp_aload_n (i := 0) dJx4a65c_grow_d5877_0 rfl ?_
  refine bp_aload_n (i := 0) dJx4a65c_grow_d5877_1 rfl ?_
  refine bp_getf dJx4a65c_grow_d5877_2 fl_Jx4a65c_48 (by first | assumption | exact ⟨by assumption, by assumption⟩) (by first | assumption | exact bp_rde | (apply bp_rdn (by decide); first | assumption | exact bp_rde | (apply bp_rdn (by decide); first | assumption | exact bp_rde | (apply bp_rdn (by decide); first | assumption | exact bp_rde | (apply bp_rdn (by decide); first | assumption | exact bp_rde))))) ?_
  refine bp_iconst (v := (nI 1)) dJx4a65c_grow_d5877_5 (by decide) ?_
  refine bp_iadd dJx4a65c_grow_d5877_6 ?_
  rw [nI_add]
  refine bp_callVp (ci := 7) dJx4a65c_grow_d5877_7 rfl ml_Jx4a65c_69 hk (s_grow1 hL hlen hlt hm) (by decide) (by decide) (Nat.le_of_ble_eq_true rfl) rfl (fun v_7 h_7 p_7 => ?_)
  obtain ⟨q, n, rfl, g1, g2, g3, g4, g5⟩ := p_7
  exact bp_aretA dJx4a65c_grow_d5877_10 rfl (bp_val_i ⟨q, n, rfl, g1, g2, g3, g4, g5⟩)
theorem bp_val_m {G : bp_X} {M : bp_M} {d pc : Nat} {lv : List (Nat × Value)} {st : List Value} {h : bp_H} {P Q : Option Value → bp_H → Prop} (hPQ : ∀ v h', P v h' → Q v h') (k : bp_W G M d pc lv st h (bp_val P)) : bp_W G M d pc lv st h (bp_val Q) :=
  bp_mono (fun o h' hp => by obtain ⟨v, e, hp⟩ := hp; exact ⟨v, e, hPQ v h' hp⟩) k
theorem bp_Fr.e {l : Nat} {h h' : bp_H} {x ci : Nat} (f : bp_Fr l h h') (o : bp_ob h x ci) : (h'.1 x).1 = 1 ∧ (h'.1 x).2.1 = ci := (f.ob o).k
theorem bp_cpy0 {h : bp_H} {a b sp dp : Nat} : bp_cpy h a b sp dp 0 = h := by
  unfold bp_cpy
  have e : (fun (c j : Nat) => if c = b ∧ 4096 + dp ≤ j ∧ j < 4096 + dp + 0 then h.2.1 a (4096 + (sp + (j - (4096 + dp)))) else h.2.1 c j) = h.2.1 := by
    funext c j
    rw [if_neg (by omega)]
  rw [e]
/-- an element out -/
theorem bp_L.erase {G : bp_X} {l e i : Nat} {h : bp_H} {xs : List Nat} {cp : Nat} (L : bp_L G h l xs cp) (hi : i < xs.length) (he : h.2.1 l 225 = .ref e) :
    bp_L G (bp_set (bp_set (bp_cpy h e e (i + 1) i (xs.length - 1 - i)) l 226 (.int (nI (xs.length - 1)))) e (4096 + (xs.length - 1)) .null) l (xs.eraseIdx i) cp ∧
    bp_Fr l h (bp_set (bp_set (bp_cpy h e e (i + 1) i (xs.length - 1 - i)) l 226 (.int (nI (xs.length - 1)))) e (4096 + (xs.length - 1)) .null) := by
  obtain ⟨a1, ⟨mc, a2⟩, a3, a4, a5, a6⟩ := L
  rcases a6 with ⟨b1, b2⟩ | ⟨b1, e', b2, b3, b4⟩
  · omega
  rw [he] at b2
  cases b2
  have hne : l ≠ e := fun z => by
    subst z
    unfold bp_ob at a1
    rw [b3] at a1
    cases a1
  have hl : (xs.eraseIdx i).length = xs.length - 1 := List.length_eraseIdx_of_lt hi
  have hk : ∀ k : Nat, k < 4096 → k ≠ 226 → (bp_set (bp_set (bp_cpy h e e (i + 1) i (xs.length - 1 - i)) l 226 (.int (nI (xs.length - 1)))) e (4096 + (xs.length - 1)) .null).2.1 l k = h.2.1 l k := fun k h1 h2 =>
    bp_rda hne (bp_rdn h2 (bp_cpy_out hne))
  refine ⟨⟨a1, ⟨mc, by rw [hk _ (by decide) (by decide)]; exact a2⟩, by rw [hl]; exact bp_rda hne bp_rde, fun x hx => a4 x (List.mem_of_mem_eraseIdx hx), by omega, Or.inr ⟨b1, e, by rw [hk _ (by decide) (by decide)]; exact he, b3, fun j x hx => ?_⟩⟩, ((bp_Fr.cpye b3).tr bp_Fr.setl).tr (bp_Fr.sete b3)⟩
  have hj : j < xs.length - 1 := by
    have := (List.getElem?_eq_some_iff.mp hx).1
    omega
  refine bp_rdn (by omega) (bp_rda (Ne.symm hne) ?_)
  rw [List.getElem?_eraseIdx] at hx
  unfold bp_cpy
  show (if e = e ∧ 4096 + i ≤ 4096 + j ∧ 4096 + j < 4096 + i + (xs.length - 1 - i) then _ else _) = _
  by_cases c : j < i
  · rw [if_pos c] at hx
    rw [if_neg (by omega)]
    exact b4 j x hx
  · rw [if_neg c] at hx
    rw [if_pos ⟨rfl, by omega, by omega⟩]
    have e9 : 4096 + (i + 1 + (4096 + j - (4096 + i))) = 4096 + (j + 1) := by omega
    rw [e9]
    exact b4 (j + 1) x hx
/-- an element in -/
theorem bp_L.insert {G : bp_X} {l e i v : Nat} {h : bp_H} {xs : List Nat} {cp : Nat} (L : bp_L G h l xs cp) (hi : i ≤ xs.length) (hlt : xs.length < cp) (he : h.2.1 l 225 = .ref e) (hv : bp_el h v) :
    h.1 e = (2, 3, cp, l + 1) ∧ bp_L G (bp_set (bp_set (bp_cpy h e e i (i + 1) (xs.length - i)) e (4096 + i) (.ref v)) l 226 (.int (nI (xs.length + 1)))) l (xs.insertIdx i v) cp ∧
    bp_Fr l h (bp_set (bp_set (bp_cpy h e e i (i + 1) (xs.length - i)) e (4096 + i) (.ref v)) l 226 (.int (nI (xs.length + 1)))) := by
  obtain ⟨a1, ⟨mc, a2⟩, a3, a4, a5, a6⟩ := L
  rcases a6 with ⟨b1, b2⟩ | ⟨b1, e', b2, b3, b4⟩
  · omega
  rw [he] at b2
  cases b2
  have hne : l ≠ e := fun z => by
    subst z
    unfold bp_ob at a1
    rw [b3] at a1
    cases a1
  have hl : (xs.insertIdx i v).length = xs.length + 1 := List.length_insertIdx_of_le_length hi v
  have hk : ∀ k : Nat, k < 4096 → k ≠ 226 → (bp_set (bp_set (bp_cpy h e e i (i + 1) (xs.length - i)) e (4096 + i) (.ref v)) l 226 (.int (nI (xs.length + 1)))).2.1 l k = h.2.1 l k := fun k h1 h2 =>
    bp_rdn h2 (bp_rda hne (bp_cpy_out hne))
  refine ⟨b3, ⟨a1, ⟨mc, by rw [hk _ (by decide) (by decide)]; exact a2⟩, by rw [hl]; exact bp_rde, fun x hx => ?_, by omega, Or.inr ⟨b1, e, by rw [hk _ (by decide) (by decide)]; exact he, b3, fun j x hx => ?_⟩⟩, ((bp_Fr.cpye b3).tr (bp_Fr.sete b3)).tr bp_Fr.setl⟩
  · rcases (List.mem_insertIdx hi).mp hx with rfl | hx
    · exact hv
    · exact a4 x hx
  · refine bp_rda (Ne.symm hne) ?_
    have hj : j < xs.length + 1 := by
      have := (List.getElem?_eq_some_iff.mp hx).1
      omega
    rcases Nat.lt_trichotomy j i with c | c | c
    · rw [List.getElem?_insertIdx_of_lt c] at hx
      refine bp_rdn (by omega) ?_
      unfold bp_cpy
      show (if e = e ∧ 4096 + (i + 1) ≤ 4096 + j ∧ 4096 + j < 4096 + (i + 1) + (xs.length - i) then _ else _) = _
      rw [if_neg (by omega)]
      exact b4 j x hx
    · subst c
      rw [List.getElem?_insertIdx_self] at hx
      split at hx
      · cases hx
        exact bp_rde
      · omega
    · rw [List.getElem?_insertIdx_of_gt c] at hx
      refine bp_rdn (by omega) ?_
      unfold bp_cpy
      show (if e = e ∧ 4096 + (i + 1) ≤ 4096 + j ∧ 4096 + j < 4096 + (i + 1) + (xs.length - i) then _ else _) = _
      rw [if_pos ⟨rfl, by omega, by omega⟩]
      have e9 : 4096 + (i + (4096 + j - (4096 + (i + 1)))) = 4096 + (j - 1) := by omega
      rw [e9]
      exact b4 (j - 1) x hx
/-- an element for another -/
theorem bp_L.put {G : bp_X} {l e i v : Nat} {h : bp_H} {xs : List Nat} {cp : Nat} (L : bp_L G h l xs cp) (hi : i < xs.length) (he : h.2.1 l 225 = .ref e) (hv : bp_el h v) :
    h.1 e = (2, 3, cp, l + 1) ∧ bp_L G (bp_set h e (4096 + i) (.ref v)) l (xs.set i v) cp ∧ bp_Fr l h (bp_set h e (4096 + i) (.ref v)) := by
  obtain ⟨a1, ⟨mc, a2⟩, a3, a4, a5, a6⟩ := L
  rcases a6 with ⟨b1, b2⟩ | ⟨b1, e', b2, b3, b4⟩
  · omega
  rw [he] at b2
  cases b2
  have hne : l ≠ e := fun z => by
    subst z
    unfold bp_ob at a1
    rw [b3] at a1
    cases a1
  refine ⟨b3, ⟨a1, ⟨mc, bp_rda hne a2⟩, by rw [List.length_set]; exact bp_rda hne a3, fun x hx => ?_, by rw [List.length_set]; exact a5, Or.inr ⟨b1, e, bp_rda hne he, b3, fun j x hx => ?_⟩⟩, bp_Fr.sete b3⟩
  · rcases List.mem_or_eq_of_mem_set hx with hx | rfl
    · exact a4 x hx
    · exact hv
  · by_cases c : i = j
    · subst c
      rw [List.getElem?_set_self hi] at hx
      cases hx
      exact bp_rde
    · rw [List.getElem?_set_ne c] at hx
      exact bp_rdn (by omega) (b4 j x hx)
/-- all out -/
theorem bp_L.none {G : bp_X} {l : Nat} {h : bp_H} {xs : List Nat} {cp : Nat} (L : bp_L G h l xs cp) : bp_L G (bp_set h l 226 (.int (nI 0))) l [] cp := by
  obtain ⟨a1, ⟨mc, a2⟩, a3, a4, a5, a6⟩ := L
  refine ⟨a1, ⟨mc, bp_rdn (by decide) a2⟩, bp_rde, fun x hx => absurd hx List.not_mem_nil, Nat.zero_le _, ?_⟩
  rcases a6 with ⟨b1, b2⟩ | ⟨b1, e, b2, b3, b4⟩
  · exact Or.inl ⟨b1, bp_rdn (by decide) b2⟩
  · exact Or.inr ⟨b1, e, bp_rdn (by decide) b2, b3, fun i x hx => by cases hx⟩
theorem bp_L.none2 {G : bp_X} {l e k : Nat} {h : bp_H} {cp : Nat} {v : Value} (L : bp_L G h l [] cp) (he : h.1 e = (2, 3, cp, l + 1)) : bp_L G (bp_set h e k v) l [] cp := by
  obtain ⟨a1, ⟨mc, a2⟩, a3, a4, a5, a6⟩ := L
  have hne : l ≠ e := fun z => by
    subst z
    unfold bp_ob at a1
    rw [he] at a1
    cases a1
  refine ⟨a1, ⟨mc, bp_rda hne a2⟩, bp_rda hne a3, fun x hx => absurd hx List.not_mem_nil, Nat.zero_le _, ?_⟩
  rcases a6 with ⟨b1, b2⟩ | ⟨b1, e', b2, b3, b4⟩
  · exact Or.inl ⟨b1, bp_rda hne b2⟩
  · exact Or.inr ⟨b1, e', bp_rda hne b2, b3, fun i x hx => by cases hx⟩
/-- what the array of a list is, where there is an element or room -/
theorem bp_L.data {G : bp_X} {l : Nat} {h : bp_H} {xs : List Nat} {cp : Nat} (L : bp_L G h l xs cp) (hc : 0 < cp) : ∃ e : Nat, h.2.1 l 225 = .ref e ∧ h.1 e = (2, 3, cp, l + 1) ∧ (∀ (i : Nat) (x : Nat), xs[i]? = some x → h.2.1 e (4096 + i) = .ref x) ∧ (cp = 10 ∨ cp = 15 ∨ cp = 22 ∨ cp = 33) := by
  obtain ⟨a1, ⟨mc, a2⟩, a3, a4, a5, a6⟩ := L
  rcases a6 with ⟨b1, b2⟩ | ⟨b1, e, b2, b3, b4⟩
  · omega
  · exact ⟨e, b2, b3, b4, b1⟩
theorem bp_el.set {h : bp_H} {x a k : Nat} {v : Value} (e : bp_el h x) : bp_el (bp_set h a k v) x := e

set_option maxRecDepth 100000 in
set_option maxHeartbeats 400000 in
theorem s_Jxa1e45_init_da8c8 {G : bp_X} {h : bp_H} {l : Nat} : bp_S G mJxa1e45_init_da8c8 1 [.ref l] h (bp_ret none h) := by
  refine bp_ofW (by decide +kernel) rfl (Nat.le_of_ble_eq_true rfl) ?_
  refine bp_aload_n (i := 0) dJxa1e45_init_da8c8_0 rfl ?_
  refine bp_objInit dJxa1e45_init_da8c8_1 ⟨ml_Jxa1e45_1, ow_1, ow_2⟩ (by decide) (Nat.le_of_ble_eq_true rfl) ?_
  exact bp_vret dJxa1e45_init_da8c8_4 rfl bp_ret_i
set_option maxRecDepth 100000 in
set_option maxHeartbeats 400000 in
theorem s_Jxc12de_init_da8c8 {G : bp_X} {h : bp_H} {l : Nat} (ho : bp_ob h l 7) : bp_S G mJxc12de_init_da8c8 2 [.ref l] h (bp_ret none (bp_set h l 224 (.int (nI 0)))) := by
  have hk := ho.k
  refine bp_ofW (by decide +kernel) rfl (Nat.le_of_ble_eq_true rfl) ?_
  refine bp_aload_n (i := 0) dJxc12de_init_da8c8_0 rfl ?_
  refine bp_callIr dJxc12de_init_da8c8_1 ml_Jxc12de_1 (s_Jxa1e45_init_da8c8) (by decide) (by decide) (Nat.le_of_ble_eq_true rfl) rfl ?_
  refine bp_aload_n (i := 0) dJxc12de_init_da8c8_4 rfl ?_
  refine bp_iconst (v := (nI 0)) dJxc12de_init_da8c8_5 (by decide) ?_
  refine bp_putf dJxc12de_init_da8c8_6 fl_Jxc12de_7 (Or.inl rfl) (by first | assumption | exact ⟨by assumption, by assumption⟩) (by first | rfl | decide) (by first | rfl | decide) ?_
  exact bp_vret dJxc12de_init_da8c8_9 rfl bp_ret_i
set_option maxRecDepth 100000 in
set_option maxHeartbeats 400000 in
theorem s_listInit {G : bp_X} {h : bp_H} {l : Nat} (ho : bp_ob h l 7) : bp_S G mJx4a65c_init_da8c8 3 [.ref l] h (bp_ret none (bp_set (bp_set h l 224 (.int (nI 0))) l 225 (.ref (bp_e0 G)))) := by
  have hk := ho.k
  refine bp_ofW (by decide +kernel) rfl (Nat.le_of_ble_eq_true rfl) ?_
  refine bp_aload_n (i := 0) dJx4a65c_init_da8c8_0 rfl ?_
  refine bp_callIr dJx4a65c_init_da8c8_1 ml_Jx4a65c_1 (s_Jxc12de_init_da8c8 ho) (by decide) (by decide) (Nat.le_of_ble_eq_true rfl) rfl ?_
  refine bp_aload_n (i := 0) dJx4a65c_init_da8c8_4 rfl ?_
  refine bp_getE dJx4a65c_init_da8c8_5 gs_Jx4a65c_39 ?_
  refine bp_putf dJx4a65c_init_da8c8_8 fl_Jx4a65c_9 (Or.inl rfl) (by first | assumption | exact ⟨by assumption, by assumption⟩) (by first | rfl | decide) (by first | rfl | decide) ?_
  exact bp_vret dJx4a65c_init_da8c8_11 rfl bp_ret_i
theorem bp_L.fresh {G : bp_X} {l : Nat} {h : bp_H} (ho : bp_ob h l 7) (hs : h.2.1 l 226 = .int (nI 0)) : bp_L G (bp_set (bp_set h l 224 (.int (nI 0))) l 225 (.ref (bp_e0 G))) l [] 0 :=
  ⟨ho, ⟨nI 0, bp_rdn (by decide) bp_rde⟩, bp_rdn (by decide) (bp_rdn (by decide) hs), fun x hx => absurd hx List.not_mem_nil, Nat.le_refl _, Or.inl ⟨rfl, bp_rde⟩⟩
set_option maxRecDepth 100000 in
set_option maxHeartbeats 400000 in
theorem t_addp {G : bp_X} {h : bp_H} {l : Nat} {xs : List Nat} {cp : Nat} {q v : Nat} (hL : bp_L G h l xs cp) (hlt : xs.length < cp) (hq : h.2.1 l 225 = .ref q) (hv : bp_el h v) : bp_W G mJx4a65c_add_72be8 5 11 [(0, .ref l), (1, .ref v), (2, .ref q), (3, .int (nI xs.length))] [] h (bp_val (fun w h1 => w = none ∧ bp_L G h1 l (xs ++ [v]) cp ∧ bp_Fr l h h1 ∧ h1.2.2 = h.2.2)) := by
  have hk := hL.1.k
  have hle := hL.le
  obtain ⟨g1, g2, g3⟩ := hL.push hlt hq hv
  obtain ⟨ci, hci, hob⟩ := hv
  refine bp_aload_n (i := 2) dJx4a65c_add_72be8_11 rfl ?_
  refine bp_iload_n (i := 3) dJx4a65c_add_72be8_12 rfl ?_
  refine bp_aload_n (i := 1) dJx4a65c_add_72be8_13 rfl ?_
  refine bp_aast dJx4a65c_add_72be8_14 (by assumption) rfl (by omega) (by omega) (bp_any3 hci) (by exact hob.k) ?_
  refine bp_aload_n (i := 0) dJx4a65c_add_72be8_15 rfl ?_
  refine bp_iload_n (i := 3) dJx4a65c_add_72be8_16 rfl ?_
  refine bp_iconst (v := (nI 1)) dJx4a65c_add_72be8_17 (by decide) ?_
  refine bp_iadd dJx4a65c_add_72be8_18 ?_
  rw [nI_add]
  refine bp_putf dJx4a65c_add_72be8_19 fl_Jx4a65c_48 (Or.inl rfl) (by first | assumption | exact ⟨by assumption, by assumption⟩) (by first | rfl | decide) (by first | rfl | decide) ?_
  exact bp_vret dJx4a65c_add_72be8_22 rfl (bp_val_i ⟨rfl, g2, g3, rfl⟩)
set_option maxRecDepth 100000 in
set_option maxHeartbeats 400000 in
theorem s_addp {G : bp_X} {h : bp_H} {l : Nat} {xs : List Nat} {cp : Nat} {e v : Nat} (hL : bp_L G h l xs cp) (hlen : xs.length < 33) (hq : h.2.1 l 225 = .ref e) (hv : bp_el h v) (hm : h.2.2 + bp_pot cp ≤ bp_max) : bp_S G mJx4a65c_add_72be8 5 [.ref l, .ref v, .ref e, .int (nI xs.length)] h (bp_val (fun w h1 => w = none ∧ ∃ n : Nat, bp_L G h1 l (xs ++ [v]) n ∧ bp_Fr l h h1 ∧ h1.2.2 + bp_pot n ≤ h.2.2 + bp_pot cp)) := by
  have hk := hL.1.k
  rcases Nat.eq_zero_or_pos cp with hc0 | hc0
  · have hle := hL.2.2.2.2.1
    have he : h.2.1 l 225 = .ref (bp_e0 G) := by
      rcases hL.2.2.2.2.2 with z | z
      · exact z.2
      · omega
    rw [he] at hq
    cases hq
    refine bp_ofW (by decide +kernel) rfl (Nat.le_of_ble_eq_true rfl) ?_
    refine bp_iload_n (i := 3) dJx4a65c_add_72be8_0 rfl ?_
    refine bp_aload_n (i := 2) dJx4a65c_add_72be8_1 rfl ?_
    refine bp_elen dJx4a65c_add_72be8_2  ?_
    refine bp_icmp_ne (tgt := 11) dJx4a65c_add_72be8_3 (by decide) (fun z9_ => absurd z9_ (fun z => z (by rw [show xs.length = 0 by omega]))) (fun c_3 => ?_)
    refine bp_aload_n (i := 0) dJx4a65c_add_72be8_6 rfl ?_
    refine bp_callVp (ci := 7) dJx4a65c_add_72be8_7 rfl ml_Jx4a65c_129 hk (s_grow0 hL (by omega) (by omega) hm) (by decide) (by decide) (Nat.le_of_ble_eq_true rfl) rfl (fun v_7 h_7 p_7 => ?_)
    obtain ⟨q, n, rfl, g1, g2, g3, g4, g5⟩ := p_7
    refine bp_astore_n (i := 2) dJx4a65c_add_72be8_10 (by decide) ?_
    refine bp_lvs (lv' := [(0, .ref l), (1, .ref v), (2, .ref q), (3, .int (nI xs.length))]) ⟨rfl, rfl, rfl, rfl, trivial⟩ ?_
    exact bp_val_m (fun _ h2 hp => ⟨hp.1, n, hp.2.1, g4.tr hp.2.2.1, by rw [hp.2.2.2]; exact g5⟩) (t_addp g1 g2 g3 (g4.el hv))
  · obtain ⟨e9, he9, hke, -, hcp⟩ := hL.data hc0
    rw [he9] at hq
    cases hq
    have hq := he9
    have hle := hL.2.2.2.2.1
    refine bp_ofW (by decide +kernel) rfl (Nat.le_of_ble_eq_true rfl) ?_
    refine bp_iload_n (i := 3) dJx4a65c_add_72be8_0 rfl ?_
    refine bp_aload_n (i := 2) dJx4a65c_add_72be8_1 rfl ?_
    refine bp_alen dJx4a65c_add_72be8_2 hke ?_
    refine bp_icmp_ne (tgt := 11) dJx4a65c_add_72be8_3 (by decide) (fun c_3 => ?_) (fun c_3 => ?_)
    · have hneq : xs.length ≠ cp := fun z => c_3 (by rw [z])
      refine bp_lvs (lv' := [(0, .ref l), (1, .ref v), (2, .ref e), (3, .int (nI xs.length))]) ⟨rfl, rfl, rfl, rfl, trivial⟩ ?_
      exact bp_val_m (fun _ h2 hp => ⟨hp.1, cp, hp.2.1, hp.2.2.1, by rw [hp.2.2.2]; exact Nat.le_refl _⟩) (t_addp hL (by omega) hq hv)
    · have heq : xs.length = cp := (nI_eq (by omega) (by omega)).mp c_3
      
      refine bp_aload_n (i := 0) dJx4a65c_add_72be8_6 rfl ?_
      refine bp_callVp (ci := 7) dJx4a65c_add_72be8_7 rfl ml_Jx4a65c_129 hk (s_grow0 hL (by omega) (by omega) hm) (by decide) (by decide) (Nat.le_of_ble_eq_true rfl) rfl (fun v_7 h_7 p_7 => ?_)
      obtain ⟨q, n, rfl, g1, g2, g3, g4, g5⟩ := p_7
      refine bp_astore_n (i := 2) dJx4a65c_add_72be8_10 (by decide) ?_
      refine bp_lvs (lv' := [(0, .ref l), (1, .ref v), (2, .ref q), (3, .int (nI xs.length))]) ⟨rfl, rfl, rfl, rfl, trivial⟩ ?_
      exact bp_val_m (fun _ h2 hp => ⟨hp.1, n, hp.2.1, g4.tr hp.2.2.1, by rw [hp.2.2.2]; exact g5⟩) (t_addp g1 g2 g3 (g4.el hv))
set_option maxRecDepth 100000 in
set_option maxHeartbeats 400000 in
theorem s_add {G : bp_X} {h : bp_H} {l : Nat} {xs : List Nat} {cp : Nat} {v : Nat} (hL : bp_L G h l xs cp) (hlen : xs.length < 33) (hv : bp_el h v) (hm : h.2.2 + bp_pot cp ≤ bp_max) : bp_S G mJx4a65c_add_9ea2d 6 [.ref l, .ref v] h (bp_val (fun w h1 => w = some (.int (nI 1)) ∧ ∃ n : Nat, bp_L G h1 l (xs ++ [v]) n ∧ bp_Fr l h h1 ∧ h1.2.2 + bp_pot n ≤ h.2.2 + bp_pot cp)) := by
  have hk := hL.1.k
  obtain ⟨mc, hmc⟩ := hL.2.1
  have hs := hL.2.2.1
  refine bp_ofW (by decide +kernel) rfl (Nat.le_of_ble_eq_true rfl) ?_
  refine bp_aload_n (i := 0) dJx4a65c_add_9ea2d_0 rfl ?_
  refine bp_dup dJx4a65c_add_9ea2d_1 rfl ?_
  refine bp_getf dJx4a65c_add_9ea2d_2 fl_Jx4a65c_63 (by first | assumption | exact ⟨by assumption, by assumption⟩) (by first | assumption | exact bp_rde | (apply bp_rdn (by decide); first | assumption | exact bp_rde | (apply bp_rdn (by decide); first | assumption | exact bp_rde | (apply bp_rdn (by decide); first | assumption | exact bp_rde | (apply bp_rdn (by decide); first | assumption | exact bp_rde))))) ?_
  refine bp_iconst (v := (nI 1)) dJx4a65c_add_9ea2d_5 (by decide) ?_
  refine bp_iadd dJx4a65c_add_9ea2d_6 ?_
  refine bp_putf dJx4a65c_add_9ea2d_7 fl_Jx4a65c_63 (Or.inl rfl) (by first | assumption | exact ⟨by assumption, by assumption⟩) (by first | rfl | decide) (by first | rfl | decide) ?_
  have hL1 := hL.mod (mc + nI 1)
  obtain ⟨e, he⟩ : ∃ e : Nat, h.2.1 l 225 = .ref e := by
    rcases hL.2.2.2.2.2 with z | ⟨-, e, z, -⟩
    · exact ⟨_, z.2⟩
    · exact ⟨e, z⟩
  refine bp_aload_n (i := 0) dJx4a65c_add_9ea2d_10 rfl ?_
  refine bp_aload_n (i := 1) dJx4a65c_add_9ea2d_11 rfl ?_
  refine bp_aload_n (i := 0) dJx4a65c_add_9ea2d_12 rfl ?_
  refine bp_getf dJx4a65c_add_9ea2d_13 fl_Jx4a65c_9 (by first | assumption | exact ⟨by assumption, by assumption⟩) (by first | assumption | exact bp_rde | (apply bp_rdn (by decide); first | assumption | exact bp_rde | (apply bp_rdn (by decide); first | assumption | exact bp_rde | (apply bp_rdn (by decide); first | assumption | exact bp_rde | (apply bp_rdn (by decide); first | assumption | exact bp_rde))))) ?_
  refine bp_aload_n (i := 0) dJx4a65c_add_9ea2d_16 rfl ?_
  refine bp_getf dJx4a65c_add_9ea2d_17 fl_Jx4a65c_48 (by first | assumption | exact ⟨by assumption, by assumption⟩) (by first | assumption | exact bp_rde | (apply bp_rdn (by decide); first | assumption | exact bp_rde | (apply bp_rdn (by decide); first | assumption | exact bp_rde | (apply bp_rdn (by decide); first | assumption | exact bp_rde | (apply bp_rdn (by decide); first | assumption | exact bp_rde))))) ?_
  refine bp_callVp (ci := 7) dJx4a65c_add_9ea2d_20 rfl ml_Jx4a65c_131 hk (s_addp hL1 hlen (bp_rdn (by decide) he) (show bp_el (bp_set h l 224 _) v from hv) hm) (by decide) (by decide) (Nat.le_of_ble_eq_true rfl) rfl (fun v_20 h_20 p_20 => ?_)
  obtain ⟨rfl, n, g1, g2, g3⟩ := p_20
  refine bp_iconst (v := (nI 1)) dJx4a65c_add_9ea2d_23 (by decide) ?_
  exact bp_iret dJx4a65c_add_9ea2d_24 rfl (by first | rfl | decide) (bp_val_i ⟨rfl, n, g1, bp_Fr.setl.tr g2, g3⟩)
set_option maxRecDepth 100000 in
set_option maxHeartbeats 400000 in
theorem s_rangeCheck {G : bp_X} {h : bp_H} {l : Nat} {xs : List Nat} {cp : Nat} {i : Nat} (hL : bp_L G h l xs cp) (hi : i ≤ xs.length) : bp_S G mJx4a65c_rangeCheckForAdd_d00df 0 [.ref l, .int (nI i)] h (bp_ret none h) := by
  have hk := hL.1.k
  have hs := hL.2.2.1
  have hcl := hL.len
  refine bp_ofW (by decide +kernel) rfl (Nat.le_of_ble_eq_true rfl) ?_
  refine bp_iload_n (i := 1) dJx4a65c_rangeCheckForAdd_d00df_0 rfl ?_
  refine bp_aload_n (i := 0) dJx4a65c_rangeCheckForAdd_d00df_1 rfl ?_
  refine bp_getf dJx4a65c_rangeCheckForAdd_d00df_2 fl_Jx4a65c_48 (by first | assumption | exact ⟨by assumption, by assumption⟩) (by first | assumption | exact bp_rde | (apply bp_rdn (by decide); first | assumption | exact bp_rde | (apply bp_rdn (by decide); first | assumption | exact bp_rde | (apply bp_rdn (by decide); first | assumption | exact bp_rde | (apply bp_rdn (by decide); first | assumption | exact bp_rde))))) ?_
  refine bp_icmp_gt (tgt := 12) dJx4a65c_rangeCheckForAdd_d00df_5 (by decide) (fun z9_ => absurd z9_ (nI_nlt hi hcl)) (fun c_5 => ?_)
  refine bp_iload_n (i := 1) dJx4a65c_rangeCheckForAdd_d00df_8 rfl ?_
  refine bp_if_ge (tgt := 25) dJx4a65c_rangeCheckForAdd_d00df_9 (by decide) (fun c_9 => ?_) (fun z9_ => absurd (nI_pos' (by omega)) z9_)
  exact bp_vret dJx4a65c_rangeCheckForAdd_d00df_25 rfl bp_ret_i
set_option maxRecDepth 100000 in
set_option maxHeartbeats 400000 in
theorem t_addi {G : bp_X} {h : bp_H} {l : Nat} {xs : List Nat} {cp : Nat} {q v i : Nat} (hL : bp_L G h l xs cp) (hlt : xs.length < cp) (hi : i ≤ xs.length) (hq : h.2.1 l 225 = .ref q) (hv : bp_el h v) : bp_W G mJx4a65c_add_7a177 6 38 [(0, .ref l), (1, .int (nI i)), (2, .ref v), (3, .int (nI xs.length)), (4, .ref q)] [] h (bp_val (fun w h1 => w = none ∧ bp_L G h1 l (xs.insertIdx i v) cp ∧ bp_Fr l h h1 ∧ h1.2.2 = h.2.2)) := by
  have hk := hL.1.k
  have hle := hL.le
  obtain ⟨q9, hq9, hke, hel, -⟩ := hL.data (by omega)
  rw [hq] at hq9
  cases hq9
  obtain ⟨-, g2, g3⟩ := hL.insert hi hlt hq hv
  have hels := hL.2.2.2.1
  obtain ⟨ci, hci, hob⟩ := hv
  refine bp_aload (i := 4) dJx4a65c_add_7a177_38 rfl ?_
  refine bp_iload_n (i := 1) dJx4a65c_add_7a177_40 rfl ?_
  refine bp_aload (i := 4) dJx4a65c_add_7a177_41 rfl ?_
  refine bp_iload_n (i := 1) dJx4a65c_add_7a177_43 rfl ?_
  refine bp_iconst (v := (nI 1)) dJx4a65c_add_7a177_44 (by decide) ?_
  refine bp_iadd dJx4a65c_add_7a177_45 ?_
  rw [nI_add]
  refine bp_iload_n (i := 3) dJx4a65c_add_7a177_46 rfl ?_
  refine bp_iload_n (i := 1) dJx4a65c_add_7a177_47 rfl ?_
  refine bp_isub dJx4a65c_add_7a177_48 ?_
  rw [pk_sub hi]
  refine bp_copyO dJx4a65c_add_7a177_49 ⟨ml_Jx4a65c_112, sw_1, sw_2, sw_3⟩ hke hke rfl rfl rfl (by omega) (by omega) (by omega) (by omega) (fun j hj => ?_) (by decide) (Nat.le_of_ble_eq_true rfl) ?_
  · obtain ⟨ci, hci, hob⟩ := hels (xs[i + j]) (List.getElem_mem _)
    exact Or.inr ⟨xs[i + j], ci, hel _ _ (List.getElem?_eq_getElem (by omega)), bp_any3 hci, hob.k⟩
  refine bp_aload (i := 4) dJx4a65c_add_7a177_52 rfl ?_
  refine bp_iload_n (i := 1) dJx4a65c_add_7a177_54 rfl ?_
  refine bp_aload_n (i := 2) dJx4a65c_add_7a177_55 rfl ?_
  refine bp_aast dJx4a65c_add_7a177_56 (by exact hke) rfl (by omega) (by omega) (bp_any3 hci) (by exact hob.k) ?_
  refine bp_aload_n (i := 0) dJx4a65c_add_7a177_57 rfl ?_
  refine bp_iload_n (i := 3) dJx4a65c_add_7a177_58 rfl ?_
  refine bp_iconst (v := (nI 1)) dJx4a65c_add_7a177_59 (by decide) ?_
  refine bp_iadd dJx4a65c_add_7a177_60 ?_
  rw [nI_add]
  refine bp_putf dJx4a65c_add_7a177_61 fl_Jx4a65c_48 (Or.inl rfl) (by first | assumption | exact ⟨by assumption, by assumption⟩) (by first | rfl | decide) (by first | rfl | decide) ?_
  exact bp_vret dJx4a65c_add_7a177_64 rfl (bp_val_i ⟨rfl, g2, g3, rfl⟩)
set_option maxRecDepth 100000 in
set_option maxHeartbeats 400000 in
theorem s_addi {G : bp_X} {h : bp_H} {l : Nat} {xs : List Nat} {cp : Nat} {i v : Nat} (hL : bp_L G h l xs cp) (hlen : xs.length < 33) (hi : i ≤ xs.length) (hv : bp_el h v) (hm : h.2.2 + bp_pot cp ≤ bp_max) : bp_S G mJx4a65c_add_7a177 6 [.ref l, .int (nI i), .ref v] h (bp_val (fun w h1 => w = none ∧ ∃ n : Nat, bp_L G h1 l (xs.insertIdx i v) n ∧ bp_Fr l h h1 ∧ h1.2.2 + bp_pot n ≤ h.2.2 + bp_pot cp)) := by
  have hk := hL.1.k
  obtain ⟨mc, hmc⟩ := hL.2.1
  have hs := hL.2.2.1
  have hle := hL.2.2.2.2.1
  have hle2 := hL.le
  rcases Nat.eq_zero_or_pos cp with hc0 | hc0
  · have he : h.2.1 l 225 = .ref (bp_e0 G) := by
      rcases hL.2.2.2.2.2 with z | z
      · exact z.2
      · omega
    refine bp_ofW (by decide +kernel) rfl (Nat.le_of_ble_eq_true rfl) ?_
    refine bp_aload_n (i := 0) dJx4a65c_add_7a177_0 rfl ?_
    refine bp_iload_n (i := 1) dJx4a65c_add_7a177_1 rfl ?_
    refine bp_callVr (ci := 7) dJx4a65c_add_7a177_2 rfl ml_Jx4a65c_135 hk (s_rangeCheck hL hi) (by decide) (by decide) (Nat.le_of_ble_eq_true rfl) rfl ?_
    refine bp_aload_n (i := 0) dJx4a65c_add_7a177_5 rfl ?_
    refine bp_dup dJx4a65c_add_7a177_6 rfl ?_
    refine bp_getf dJx4a65c_add_7a177_7 fl_Jx4a65c_63 (by first | assumption | exact ⟨by assumption, by assumption⟩) (by first | assumption | exact bp_rde | (apply bp_rdn (by decide); first | assumption | exact bp_rde | (apply bp_rdn (by decide); first | assumption | exact bp_rde | (apply bp_rdn (by decide); first | assumption | exact bp_rde | (apply bp_rdn (by decide); first | assumption | exact bp_rde))))) ?_
    have hL1 := hL.mod (mc + nI 1)
    refine bp_iconst (v := (nI 1)) dJx4a65c_add_7a177_10 (by decide) ?_
    refine bp_iadd dJx4a65c_add_7a177_11 ?_
    refine bp_putf dJx4a65c_add_7a177_12 fl_Jx4a65c_63 (Or.inl rfl) (by first | assumption | exact ⟨by assumption, by assumption⟩) (by first | rfl | decide) (by first | rfl | decide) ?_
    refine bp_aload_n (i := 0) dJx4a65c_add_7a177_15 rfl ?_
    refine bp_getf dJx4a65c_add_7a177_16 fl_Jx4a65c_48 (by first | assumption | exact ⟨by assumption, by assumption⟩) (by first | assumption | exact bp_rde | (apply bp_rdn (by decide); first | assumption | exact bp_rde | (apply bp_rdn (by decide); first | assumption | exact bp_rde | (apply bp_rdn (by decide); first | assumption | exact bp_rde | (apply bp_rdn (by decide); first | assumption | exact bp_rde))))) ?_
    refine bp_dup dJx4a65c_add_7a177_19 rfl ?_
    refine bp_istore_n (i := 3) dJx4a65c_add_7a177_20 (by decide) ?_
    refine bp_aload_n (i := 0) dJx4a65c_add_7a177_21 rfl ?_
    refine bp_getf dJx4a65c_add_7a177_22 fl_Jx4a65c_9 (by first | assumption | exact ⟨by assumption, by assumption⟩) (by first | assumption | exact bp_rde | (apply bp_rdn (by decide); first | assumption | exact bp_rde | (apply bp_rdn (by decide); first | assumption | exact bp_rde | (apply bp_rdn (by decide); first | assumption | exact bp_rde | (apply bp_rdn (by decide); first | assumption | exact bp_rde))))) ?_
    refine bp_dup dJx4a65c_add_7a177_25 rfl ?_
    refine bp_astore (i := 4) dJx4a65c_add_7a177_26 (by decide) ?_
    refine bp_elen dJx4a65c_add_7a177_28  ?_
    refine bp_icmp_ne (tgt := 38) dJx4a65c_add_7a177_29 (by decide) (fun z9_ => absurd z9_ (fun z => z (by rw [show xs.length = 0 by omega]))) (fun c_29 => ?_)
    refine bp_aload_n (i := 0) dJx4a65c_add_7a177_32 rfl ?_
    refine bp_callVp (ci := 7) dJx4a65c_add_7a177_33 rfl ml_Jx4a65c_129 hk (s_grow0 (h := bp_set h l 224 (.int (mc + nI 1))) hL1 (by omega) (by omega) hm) (by decide) (by decide) (Nat.le_of_ble_eq_true rfl) rfl (fun v_33 h_33 p_33 => ?_)
    obtain ⟨q, n, rfl, g1, g2, g3, g4, g5⟩ := p_33
    refine bp_astore (i := 4) dJx4a65c_add_7a177_36 (by decide) ?_
    refine bp_lvs (lv' := [(0, .ref l), (1, .int (nI i)), (2, .ref v), (3, .int (nI xs.length)), (4, .ref q)]) ⟨rfl, rfl, rfl, rfl, rfl, trivial⟩ ?_
    exact bp_val_m (fun _ h2 hp => ⟨hp.1, n, hp.2.1, bp_Fr.setl.tr (g4.tr hp.2.2.1), by rw [hp.2.2.2]; exact g5⟩) (t_addi g1 g2 hi g3 (g4.el (show bp_el (bp_set h l 224 _) v from hv)))
  · obtain ⟨e9, he9, hke, -, hcp⟩ := hL.data hc0
    refine bp_ofW (by decide +kernel) rfl (Nat.le_of_ble_eq_true rfl) ?_
    refine bp_aload_n (i := 0) dJx4a65c_add_7a177_0 rfl ?_
    refine bp_iload_n (i := 1) dJx4a65c_add_7a177_1 rfl ?_
    refine bp_callVr (ci := 7) dJx4a65c_add_7a177_2 rfl ml_Jx4a65c_135 hk (s_rangeCheck hL hi) (by decide) (by decide) (Nat.le_of_ble_eq_true rfl) rfl ?_
    refine bp_aload_n (i := 0) dJx4a65c_add_7a177_5 rfl ?_
    refine bp_dup dJx4a65c_add_7a177_6 rfl ?_
    refine bp_getf dJx4a65c_add_7a177_7 fl_Jx4a65c_63 (by first | assumption | exact ⟨by assumption, by assumption⟩) (by first | assumption | exact bp_rde | (apply bp_rdn (by decide); first | assumption | exact bp_rde | (apply bp_rdn (by decide); first | assumption | exact bp_rde | (apply bp_rdn (by decide); first | assumption | exact bp_rde | (apply bp_rdn (by decide); first | assumption | exact bp_rde))))) ?_
    have hL1 := hL.mod (mc + nI 1)
    refine bp_iconst (v := (nI 1)) dJx4a65c_add_7a177_10 (by decide) ?_
    refine bp_iadd dJx4a65c_add_7a177_11 ?_
    refine bp_putf dJx4a65c_add_7a177_12 fl_Jx4a65c_63 (Or.inl rfl) (by first | assumption | exact ⟨by assumption, by assumption⟩) (by first | rfl | decide) (by first | rfl | decide) ?_
    refine bp_aload_n (i := 0) dJx4a65c_add_7a177_15 rfl ?_
    refine bp_getf dJx4a65c_add_7a177_16 fl_Jx4a65c_48 (by first | assumption | exact ⟨by assumption, by assumption⟩) (by first | assumption | exact bp_rde | (apply bp_rdn (by decide); first | assumption | exact bp_rde | (apply bp_rdn (by decide); first | assumption | exact bp_rde | (apply bp_rdn (by decide); first | assumption | exact bp_rde | (apply bp_rdn (by decide); first | assumption | exact bp_rde))))) ?_
    refine bp_dup dJx4a65c_add_7a177_19 rfl ?_
    refine bp_istore_n (i := 3) dJx4a65c_add_7a177_20 (by decide) ?_
    refine bp_aload_n (i := 0) dJx4a65c_add_7a177_21 rfl ?_
    refine bp_getf dJx4a65c_add_7a177_22 fl_Jx4a65c_9 (by first | assumption | exact ⟨by assumption, by assumption⟩) (by first | assumption | exact bp_rde | (apply bp_rdn (by decide); first | assumption | exact bp_rde | (apply bp_rdn (by decide); first | assumption | exact bp_rde | (apply bp_rdn (by decide); first | assumption | exact bp_rde | (apply bp_rdn (by decide); first | assumption | exact bp_rde))))) ?_
    refine bp_dup dJx4a65c_add_7a177_25 rfl ?_
    refine bp_astore (i := 4) dJx4a65c_add_7a177_26 (by decide) ?_
    refine bp_alen dJx4a65c_add_7a177_28 hke ?_
    refine bp_icmp_ne (tgt := 38) dJx4a65c_add_7a177_29 (by decide) (fun c_29 => ?_) (fun c_29 => ?_)
    · have hneq : xs.length ≠ cp := fun z => c_29 (by rw [z])
      refine bp_lvs (lv' := [(0, .ref l), (1, .int (nI i)), (2, .ref v), (3, .int (nI xs.length)), (4, .ref e9)]) ⟨rfl, rfl, rfl, rfl, rfl, trivial⟩ ?_
      exact bp_val_m (fun _ h2 hp => ⟨hp.1, cp, hp.2.1, bp_Fr.setl.tr hp.2.2.1, by rw [hp.2.2.2]; exact Nat.le_refl _⟩) (t_addi hL1 (by omega) hi (bp_rdn (by decide) he9) (show bp_el (bp_set h l 224 _) v from hv))
    · have heq : xs.length = cp := (nI_eq (by omega) (by omega)).mp c_29
      refine bp_aload_n (i := 0) dJx4a65c_add_7a177_32 rfl ?_
      refine bp_callVp (ci := 7) dJx4a65c_add_7a177_33 rfl ml_Jx4a65c_129 hk (s_grow0 (h := bp_set h l 224 (.int (mc + nI 1))) hL1 (by omega) (by omega) hm) (by decide) (by decide) (Nat.le_of_ble_eq_true rfl) rfl (fun v_33 h_33 p_33 => ?_)
      obtain ⟨q, n, rfl, g1, g2, g3, g4, g5⟩ := p_33
      refine bp_astore (i := 4) dJx4a65c_add_7a177_36 (by decide) ?_
      refine bp_lvs (lv' := [(0, .ref l), (1, .int (nI i)), (2, .ref v), (3, .int (nI xs.length)), (4, .ref q)]) ⟨rfl, rfl, rfl, rfl, rfl, trivial⟩ ?_
      exact bp_val_m (fun _ h2 hp => ⟨hp.1, n, hp.2.1, bp_Fr.setl.tr (g4.tr hp.2.2.1), by rw [hp.2.2.2]; exact g5⟩) (t_addi g1 g2 hi g3 (g4.el (show bp_el (bp_set h l 224 _) v from hv)))
set_option maxRecDepth 100000 in
set_option maxHeartbeats 400000 in
theorem s_fastRemove {G : bp_X} {h : bp_H} {l : Nat} {xs : List Nat} {cp : Nat} {e i : Nat} (hL : bp_L G h l xs cp) (hi : i < xs.length) (he : h.2.1 l 225 = .ref e) : bp_S G mJx4a65c_fastRemove_b59b0 2 [.ref l, .ref e, .int (nI i)] h (bp_val (fun w h1 => w = none ∧ bp_L G h1 l (xs.eraseIdx i) cp ∧ bp_Fr l h h1 ∧ h1.2.2 = h.2.2)) := by
  have hk := hL.1.k
  obtain ⟨mc, hmc⟩ := hL.2.1
  have hs := hL.2.2.1
  have hle := hL.2.2.2.2.1
  have hle2 := hL.le
  obtain ⟨e9, he9, hke, hel, -⟩ := hL.data (by omega)
  rw [he] at he9
  cases he9
  have hels := hL.2.2.2.1
  refine bp_ofW (by decide +kernel) rfl (Nat.le_of_ble_eq_true rfl) ?_
  refine bp_aload_n (i := 0) dJx4a65c_fastRemove_b59b0_0 rfl ?_
  refine bp_dup dJx4a65c_fastRemove_b59b0_1 rfl ?_
  refine bp_getf dJx4a65c_fastRemove_b59b0_2 fl_Jx4a65c_63 (by first | assumption | exact ⟨by assumption, by assumption⟩) (by first | assumption | exact bp_rde | (apply bp_rdn (by decide); first | assumption | exact bp_rde | (apply bp_rdn (by decide); first | assumption | exact bp_rde | (apply bp_rdn (by decide); first | assumption | exact bp_rde | (apply bp_rdn (by decide); first | assumption | exact bp_rde))))) ?_
  refine bp_iconst (v := (nI 1)) dJx4a65c_fastRemove_b59b0_5 (by decide) ?_
  refine bp_iadd dJx4a65c_fastRemove_b59b0_6 ?_
  refine bp_putf dJx4a65c_fastRemove_b59b0_7 fl_Jx4a65c_63 (Or.inl rfl) (by first | assumption | exact ⟨by assumption, by assumption⟩) (by first | rfl | decide) (by first | rfl | decide) ?_
  have hL1 := hL.mod (mc + nI 1)
  obtain ⟨g2, g3⟩ := hL1.erase hi (bp_rdn (by decide) he)
  refine bp_aload_n (i := 0) dJx4a65c_fastRemove_b59b0_10 rfl ?_
  refine bp_getf dJx4a65c_fastRemove_b59b0_11 fl_Jx4a65c_48 (by first | assumption | exact ⟨by assumption, by assumption⟩) (by first | assumption | exact bp_rde | (apply bp_rdn (by decide); first | assumption | exact bp_rde | (apply bp_rdn (by decide); first | assumption | exact bp_rde | (apply bp_rdn (by decide); first | assumption | exact bp_rde | (apply bp_rdn (by decide); first | assumption | exact bp_rde))))) ?_
  refine bp_iconst (v := (nI 1)) dJx4a65c_fastRemove_b59b0_14 (by decide) ?_
  refine bp_isub dJx4a65c_fastRemove_b59b0_15 ?_
  rw [pk_sub (by omega)]
  refine bp_dup dJx4a65c_fastRemove_b59b0_16 rfl ?_
  refine bp_istore_n (i := 3) dJx4a65c_fastRemove_b59b0_17 (by decide) ?_
  refine bp_iload_n (i := 2) dJx4a65c_fastRemove_b59b0_18 rfl ?_
  refine bp_icmp_le (tgt := 34) dJx4a65c_fastRemove_b59b0_19 (by decide) (fun c_19 => ?_) (fun c_19 => ?_)
  · have hii : ¬ i < xs.length - 1 := fun z => absurd ((nI_leI (by omega) (by omega)).mp c_19) (by omega)
    rw [show xs.length - 1 - i = 0 by omega, bp_cpy0] at g2 g3
    refine bp_aload_n (i := 1) dJx4a65c_fastRemove_b59b0_34 rfl ?_
    refine bp_aload_n (i := 0) dJx4a65c_fastRemove_b59b0_35 rfl ?_
    refine bp_iload_n (i := 3) dJx4a65c_fastRemove_b59b0_36 rfl ?_
    refine bp_dup_x1 dJx4a65c_fastRemove_b59b0_37 rfl rfl ?_
    refine bp_putf dJx4a65c_fastRemove_b59b0_38 fl_Jx4a65c_48 (Or.inl rfl) (by first | assumption | exact ⟨by assumption, by assumption⟩) (by first | rfl | decide) (by first | rfl | decide) ?_
    refine bp_null dJx4a65c_fastRemove_b59b0_41 ?_
    refine bp_aastN dJx4a65c_fastRemove_b59b0_42 (by exact hke) rfl (by omega) (by omega) ?_
    exact bp_vret dJx4a65c_fastRemove_b59b0_43 rfl (bp_val_i ⟨rfl, g2, bp_Fr.setl.tr g3, rfl⟩)
  · refine bp_aload_n (i := 1) dJx4a65c_fastRemove_b59b0_22 rfl ?_
    refine bp_iload_n (i := 2) dJx4a65c_fastRemove_b59b0_23 rfl ?_
    refine bp_iconst (v := (nI 1)) dJx4a65c_fastRemove_b59b0_24 (by decide) ?_
    refine bp_iadd dJx4a65c_fastRemove_b59b0_25 ?_
    rw [nI_add]
    refine bp_aload_n (i := 1) dJx4a65c_fastRemove_b59b0_26 rfl ?_
    refine bp_iload_n (i := 2) dJx4a65c_fastRemove_b59b0_27 rfl ?_
    refine bp_iload_n (i := 3) dJx4a65c_fastRemove_b59b0_28 rfl ?_
    refine bp_iload_n (i := 2) dJx4a65c_fastRemove_b59b0_29 rfl ?_
    refine bp_isub dJx4a65c_fastRemove_b59b0_30 ?_
    rw [pk_sub (by have := nI_ltI (a := i) (b := xs.length - 1) (by omega) (by omega); have h8 : i < xs.length - 1 := this.mp (Int32.not_le.mp c_19); omega)]
    refine bp_copyO dJx4a65c_fastRemove_b59b0_31 ⟨ml_Jx4a65c_112, sw_1, sw_2, sw_3⟩ hke hke rfl rfl rfl (by omega) (by omega) (by omega) (by omega) (fun j hj => ?_) (by decide) (Nat.le_of_ble_eq_true rfl) ?_
    · obtain ⟨ci, hci, hob⟩ := hels (xs[i + 1 + j]) (List.getElem_mem _)
      exact Or.inr ⟨xs[i + 1 + j], ci, bp_rdn (by omega) (hel _ _ (List.getElem?_eq_getElem (by omega))), bp_any3 hci, hob.k⟩
    refine bp_aload_n (i := 1) dJx4a65c_fastRemove_b59b0_34 rfl ?_
    refine bp_aload_n (i := 0) dJx4a65c_fastRemove_b59b0_35 rfl ?_
    refine bp_iload_n (i := 3) dJx4a65c_fastRemove_b59b0_36 rfl ?_
    refine bp_dup_x1 dJx4a65c_fastRemove_b59b0_37 rfl rfl ?_
    refine bp_putf dJx4a65c_fastRemove_b59b0_38 fl_Jx4a65c_48 (Or.inl rfl) (by first | assumption | exact ⟨by assumption, by assumption⟩) (by first | rfl | decide) (by first | rfl | decide) ?_
    refine bp_null dJx4a65c_fastRemove_b59b0_41 ?_
    refine bp_aastN dJx4a65c_fastRemove_b59b0_42 (by exact hke) rfl (by omega) (by omega) ?_
    exact bp_vret dJx4a65c_fastRemove_b59b0_43 rfl (bp_val_i ⟨rfl, g2, bp_Fr.setl.tr g3, rfl⟩)
set_option maxRecDepth 100000 in
set_option maxHeartbeats 400000 in
theorem s_remove {G : bp_X} {h : bp_H} {l : Nat} {xs : List Nat} {cp : Nat} {i x : Nat} (hL : bp_L G h l xs cp) (hx : xs[i]? = some x) : bp_S G mJx4a65c_remove_915e3 3 [.ref l, .int (nI i)] h (bp_val (fun w h1 => w = some (.ref x) ∧ bp_L G h1 l (xs.eraseIdx i) cp ∧ bp_Fr l h h1 ∧ h1.2.2 = h.2.2)) := by
  have hk := hL.1.k
  have hs := hL.2.2.1
  have hi : i < xs.length := (List.getElem?_eq_some_iff.mp hx).1
  have hle := hL.2.2.2.2.1
  have hle2 := hL.le
  have hcl := hL.len
  obtain ⟨e, he, hke, hel, -⟩ := hL.data (by omega)
  refine bp_ofW (by decide +kernel) rfl (Nat.le_of_ble_eq_true rfl) ?_
  refine bp_iload_n (i := 1) dJx4a65c_remove_915e3_0 rfl ?_
  refine bp_aload_n (i := 0) dJx4a65c_remove_915e3_1 rfl ?_
  refine bp_getf dJx4a65c_remove_915e3_2 fl_Jx4a65c_48 (by first | assumption | exact ⟨by assumption, by assumption⟩) (by first | assumption | exact bp_rde | (apply bp_rdn (by decide); first | assumption | exact bp_rde | (apply bp_rdn (by decide); first | assumption | exact bp_rde | (apply bp_rdn (by decide); first | assumption | exact bp_rde | (apply bp_rdn (by decide); first | assumption | exact bp_rde))))) ?_
  refine bp_callSr dJx4a65c_remove_915e3_5 ml_Jx4a65c_118 (s_J15_checkIndex_7cf53 hi hcl) (by decide) (by decide) (Nat.le_of_ble_eq_true rfl) rfl ?_
  refine bp_pop dJx4a65c_remove_915e3_8 rfl ?_
  refine bp_aload_n (i := 0) dJx4a65c_remove_915e3_9 rfl ?_
  refine bp_getf dJx4a65c_remove_915e3_10 fl_Jx4a65c_9 (by first | assumption | exact ⟨by assumption, by assumption⟩) (by first | assumption | exact bp_rde | (apply bp_rdn (by decide); first | assumption | exact bp_rde | (apply bp_rdn (by decide); first | assumption | exact bp_rde | (apply bp_rdn (by decide); first | assumption | exact bp_rde | (apply bp_rdn (by decide); first | assumption | exact bp_rde))))) ?_
  refine bp_astore_n (i := 2) dJx4a65c_remove_915e3_13 (by decide) ?_
  refine bp_aload_n (i := 2) dJx4a65c_remove_915e3_14 rfl ?_
  refine bp_iload_n (i := 1) dJx4a65c_remove_915e3_15 rfl ?_
  refine bp_aald3 dJx4a65c_remove_915e3_16 (by assumption) rfl (by omega) (by omega) (by exact hel _ _ hx) ?_
  refine bp_astore_n (i := 3) dJx4a65c_remove_915e3_17 (by decide) ?_
  refine bp_aload_n (i := 0) dJx4a65c_remove_915e3_18 rfl ?_
  refine bp_aload_n (i := 2) dJx4a65c_remove_915e3_19 rfl ?_
  refine bp_iload_n (i := 1) dJx4a65c_remove_915e3_20 rfl ?_
  refine bp_callVp (ci := 7) dJx4a65c_remove_915e3_21 rfl ml_Jx4a65c_144 hk (s_fastRemove hL hi he) (by decide) (by decide) (Nat.le_of_ble_eq_true rfl) rfl (fun v_21 h_21 p_21 => ?_)
  obtain ⟨rfl, g1, g2, g3⟩ := p_21
  refine bp_aload_n (i := 3) dJx4a65c_remove_915e3_24 rfl ?_
  exact bp_aret dJx4a65c_remove_915e3_25 rfl (bp_val_i ⟨rfl, g1, g2, g3⟩)
set_option maxRecDepth 100000 in
set_option maxHeartbeats 400000 in
theorem t_clear {G : bp_X} {h : bp_H} {l : Nat} {xs : List Nat} {cp : Nat} {e n : Nat} (hn : n ≤ cp) (hke : h.1 e = (2, 3, cp, l + 1)) (hcp : cp ≤ 33) : ∀ (j i : Nat) (hh : bp_H), i + j = n → bp_L G hh l [] cp → bp_Fr l h hh → hh.1 e = (2, 3, cp, l + 1) → hh.2.2 = h.2.2 → bp_W G mJx4a65c_clear_da8c8 1 27 [(0, .ref l), (1, .ref e), (2, .int (nI n)), (3, .int (nI i))] [] hh (bp_val (fun w h1 => w = none ∧ bp_L G h1 l [] cp ∧ bp_Fr l h h1 ∧ h1.2.2 = h.2.2)) := by
  intro j
  induction j with
  | zero =>
    intro i hh hij L F K U
    refine bp_iload_n (i := 3) dJx4a65c_clear_da8c8_27 rfl ?_
    refine bp_iload_n (i := 2) dJx4a65c_clear_da8c8_28 rfl ?_
    refine bp_icmp_ge (tgt := 42) dJx4a65c_clear_da8c8_29 (by decide) (fun c_29 => ?_) (fun z9_ => absurd (show nI n ≤ nI i from nI_le (by omega) (by omega)) z9_)
    exact bp_vret dJx4a65c_clear_da8c8_42 rfl (bp_val_i ⟨rfl, L, F, U⟩)
  | succ j ih =>
    intro i hh hij L F K U
    refine bp_iload_n (i := 3) dJx4a65c_clear_da8c8_27 rfl ?_
    refine bp_iload_n (i := 2) dJx4a65c_clear_da8c8_28 rfl ?_
    refine bp_icmp_ge (tgt := 42) dJx4a65c_clear_da8c8_29 (by decide) (fun z9_ => absurd z9_ (show ¬ nI n ≤ nI i from nI_ge (by omega) (by omega))) (fun c_29 => ?_)
    refine bp_aload_n (i := 1) dJx4a65c_clear_da8c8_32 rfl ?_
    refine bp_iload_n (i := 3) dJx4a65c_clear_da8c8_33 rfl ?_
    refine bp_null dJx4a65c_clear_da8c8_34 ?_
    refine bp_aastN dJx4a65c_clear_da8c8_35 (by exact K) rfl (by omega) (by omega) ?_
    refine bp_iinc dJx4a65c_clear_da8c8_36 rfl (by decide) (by first | exact bp_inc _ | rfl) ?_
    refine bp_goto (tgt := 27) dJx4a65c_clear_da8c8_39 (by decide) ?_
    refine bp_lvs (lv' := [(0, .ref l), (1, .ref e), (2, .int (nI n)), (3, .int (nI (i + 1)))]) ⟨rfl, rfl, rfl, rfl, trivial⟩ ?_
    exact ih (i + 1) _ (by omega) (L.none2 K) (F.tr (bp_Fr.sete K)) K U
set_option maxRecDepth 100000 in
set_option maxHeartbeats 400000 in
theorem s_clear {G : bp_X} {h : bp_H} {l : Nat} {xs : List Nat} {cp : Nat} (hL : bp_L G h l xs cp) : bp_S G mJx4a65c_clear_da8c8 1 [.ref l] h (bp_val (fun w h1 => w = none ∧ bp_L G h1 l [] cp ∧ bp_Fr l h h1 ∧ h1.2.2 = h.2.2)) := by
  have hk := hL.1.k
  obtain ⟨mc, hmc⟩ := hL.2.1
  have hs := hL.2.2.1
  have hle := hL.2.2.2.2.1
  have hle2 := hL.le
  rcases Nat.eq_zero_or_pos cp with hc0 | hc0
  · have he : h.2.1 l 225 = .ref (bp_e0 G) := by
      rcases hL.2.2.2.2.2 with z | z
      · exact z.2
      · omega
    refine bp_ofW (by decide +kernel) rfl (Nat.le_of_ble_eq_true rfl) ?_
    refine bp_aload_n (i := 0) dJx4a65c_clear_da8c8_0 rfl ?_
    refine bp_dup dJx4a65c_clear_da8c8_1 rfl ?_
    refine bp_getf dJx4a65c_clear_da8c8_2 fl_Jx4a65c_63 (by first | assumption | exact ⟨by assumption, by assumption⟩) (by first | assumption | exact bp_rde | (apply bp_rdn (by decide); first | assumption | exact bp_rde | (apply bp_rdn (by decide); first | assumption | exact bp_rde | (apply bp_rdn (by decide); first | assumption | exact bp_rde | (apply bp_rdn (by decide); first | assumption | exact bp_rde))))) ?_
    refine bp_iconst (v := (nI 1)) dJx4a65c_clear_da8c8_5 (by decide) ?_
    refine bp_iadd dJx4a65c_clear_da8c8_6 ?_
    refine bp_putf dJx4a65c_clear_da8c8_7 fl_Jx4a65c_63 (Or.inl rfl) (by first | assumption | exact ⟨by assumption, by assumption⟩) (by first | rfl | decide) (by first | rfl | decide) ?_
    have hL1 := hL.mod (mc + nI 1)
    refine bp_aload_n (i := 0) dJx4a65c_clear_da8c8_10 rfl ?_
    refine bp_getf dJx4a65c_clear_da8c8_11 fl_Jx4a65c_9 (by first | assumption | exact ⟨by assumption, by assumption⟩) (by first | assumption | exact bp_rde | (apply bp_rdn (by decide); first | assumption | exact bp_rde | (apply bp_rdn (by decide); first | assumption | exact bp_rde | (apply bp_rdn (by decide); first | assumption | exact bp_rde | (apply bp_rdn (by decide); first | assumption | exact bp_rde))))) ?_
    refine bp_astore_n (i := 1) dJx4a65c_clear_da8c8_14 (by decide) ?_
    refine bp_aload_n (i := 0) dJx4a65c_clear_da8c8_15 rfl ?_
    refine bp_getf dJx4a65c_clear_da8c8_16 fl_Jx4a65c_48 (by first | assumption | exact ⟨by assumption, by assumption⟩) (by first | assumption | exact bp_rde | (apply bp_rdn (by decide); first | assumption | exact bp_rde | (apply bp_rdn (by decide); first | assumption | exact bp_rde | (apply bp_rdn (by decide); first | assumption | exact bp_rde | (apply bp_rdn (by decide); first | assumption | exact bp_rde))))) ?_
    refine bp_istore_n (i := 2) dJx4a65c_clear_da8c8_19 (by decide) ?_
    refine bp_aload_n (i := 0) dJx4a65c_clear_da8c8_20 rfl ?_
    refine bp_iconst (v := (nI 0)) dJx4a65c_clear_da8c8_21 (by decide) ?_
    refine bp_dup_x1 dJx4a65c_clear_da8c8_22 rfl rfl ?_
    refine bp_putf dJx4a65c_clear_da8c8_23 fl_Jx4a65c_48 (Or.inl rfl) (by first | assumption | exact ⟨by assumption, by assumption⟩) (by first | rfl | decide) (by first | rfl | decide) ?_
    have hL2 := hL1.none
    refine bp_istore_n (i := 3) dJx4a65c_clear_da8c8_26 (by decide) ?_
    refine bp_iload_n (i := 3) dJx4a65c_clear_da8c8_27 rfl ?_
    refine bp_iload_n (i := 2) dJx4a65c_clear_da8c8_28 rfl ?_
    refine bp_icmp_ge (tgt := 42) dJx4a65c_clear_da8c8_29 (by decide) (fun c_29 => ?_) (fun z9_ => absurd (show nI xs.length ≤ nI 0 from nI_le (by omega) (by omega)) z9_)
    exact bp_vret dJx4a65c_clear_da8c8_42 rfl (bp_val_i ⟨rfl, hL2, bp_Fr.setl.tr bp_Fr.setl, rfl⟩)
  · obtain ⟨e9, he9, hke, -, hcp⟩ := hL.data hc0
    refine bp_ofW (by decide +kernel) rfl (Nat.le_of_ble_eq_true rfl) ?_
    refine bp_aload_n (i := 0) dJx4a65c_clear_da8c8_0 rfl ?_
    refine bp_dup dJx4a65c_clear_da8c8_1 rfl ?_
    refine bp_getf dJx4a65c_clear_da8c8_2 fl_Jx4a65c_63 (by first | assumption | exact ⟨by assumption, by assumption⟩) (by first | assumption | exact bp_rde | (apply bp_rdn (by decide); first | assumption | exact bp_rde | (apply bp_rdn (by decide); first | assumption | exact bp_rde | (apply bp_rdn (by decide); first | assumption | exact bp_rde | (apply bp_rdn (by decide); first | assumption | exact bp_rde))))) ?_
    refine bp_iconst (v := (nI 1)) dJx4a65c_clear_da8c8_5 (by decide) ?_
    refine bp_iadd dJx4a65c_clear_da8c8_6 ?_
    refine bp_putf dJx4a65c_clear_da8c8_7 fl_Jx4a65c_63 (Or.inl rfl) (by first | assumption | exact ⟨by assumption, by assumption⟩) (by first | rfl | decide) (by first | rfl | decide) ?_
    have hL1 := hL.mod (mc + nI 1)
    refine bp_aload_n (i := 0) dJx4a65c_clear_da8c8_10 rfl ?_
    refine bp_getf dJx4a65c_clear_da8c8_11 fl_Jx4a65c_9 (by first | assumption | exact ⟨by assumption, by assumption⟩) (by first | assumption | exact bp_rde | (apply bp_rdn (by decide); first | assumption | exact bp_rde | (apply bp_rdn (by decide); first | assumption | exact bp_rde | (apply bp_rdn (by decide); first | assumption | exact bp_rde | (apply bp_rdn (by decide); first | assumption | exact bp_rde))))) ?_
    refine bp_astore_n (i := 1) dJx4a65c_clear_da8c8_14 (by decide) ?_
    refine bp_aload_n (i := 0) dJx4a65c_clear_da8c8_15 rfl ?_
    refine bp_getf dJx4a65c_clear_da8c8_16 fl_Jx4a65c_48 (by first | assumption | exact ⟨by assumption, by assumption⟩) (by first | assumption | exact bp_rde | (apply bp_rdn (by decide); first | assumption | exact bp_rde | (apply bp_rdn (by decide); first | assumption | exact bp_rde | (apply bp_rdn (by decide); first | assumption | exact bp_rde | (apply bp_rdn (by decide); first | assumption | exact bp_rde))))) ?_
    refine bp_istore_n (i := 2) dJx4a65c_clear_da8c8_19 (by decide) ?_
    refine bp_aload_n (i := 0) dJx4a65c_clear_da8c8_20 rfl ?_
    refine bp_iconst (v := (nI 0)) dJx4a65c_clear_da8c8_21 (by decide) ?_
    refine bp_dup_x1 dJx4a65c_clear_da8c8_22 rfl rfl ?_
    refine bp_putf dJx4a65c_clear_da8c8_23 fl_Jx4a65c_48 (Or.inl rfl) (by first | assumption | exact ⟨by assumption, by assumption⟩) (by first | rfl | decide) (by first | rfl | decide) ?_
    have hL2 := hL1.none
    refine bp_istore_n (i := 3) dJx4a65c_clear_da8c8_26 (by decide) ?_
    refine bp_lvs (lv' := [(0, .ref l), (1, .ref e9), (2, .int (nI xs.length)), (3, .int (nI 0))]) ⟨rfl, rfl, rfl, rfl, trivial⟩ ?_
    exact t_clear (xs := xs) hle hke hle2 xs.length 0 _ (by omega) hL2 (bp_Fr.setl.tr bp_Fr.setl) hke rfl

