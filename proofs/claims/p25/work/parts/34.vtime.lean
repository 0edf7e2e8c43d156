/-! ===== what holds of the shop, in numbers ===== -/
/-- it is an operation -/
def v_op (σ : bt_X) (i : Nat) : Prop := i / 4 < b_nj σ ∧ i % 4 < b_np σ (i / 4)
/-- operations -/
def v_O (σ : bt_X) : Prop := ∀ i, v_op σ i → (∃ m, σ.2.1 2 i 2 = some m ∧ m < b_nm σ) ∧ (σ.1 2 i 4 = nI (b_fn σ i) ∧ b_fn σ i < 4) ∧ σ.1 2 i 1 = nI (i % 4) ∧
  σ.2.1 2 i 6 = (if i % 4 = 0 then none else some (i - 1)) ∧ σ.2.1 2 i 7 = (if i % 4 + 1 < b_np σ (i / 4) then some (i + 1) else none) ∧ (∃ l, σ.1 2 i 3 = nI l ∧ 1 ≤ l ∧ l ≤ 200) ∧ m_w 256 (σ.1 2 i 5)
/-- machines' breakdowns -/
def v_M (σ : bt_X) : Prop := ∀ m, m < b_nm σ → (σ.1 1 m 3 = nI 0 ∨ σ.1 1 m 3 = nI 1) ∧ (σ.1 1 m 3 ≠ nI 0 → ∃ a b, σ.1 1 m 4 = nI a ∧ σ.1 1 m 5 = nI b ∧ a < b ∧ b ≤ 10000)
/-- set-ups -/
def v_S (σ : bt_X) : Prop := ∀ f g, f < 4 → g < 4 → ∃ s, σ.1 8 (1 + f) g = nI s ∧ s ≤ 60
/-- rows: whose, and how they are linked -/
def v_W (σ x : bt_X) : Prop :=
  (∀ m, m < b_nm σ → (x.2.2 (4 + m)).Nodup ∧ ∀ i ∈ x.2.2 (4 + m), v_op σ i ∧ b_m σ i = m) ∧
  (∀ m, m < b_nm σ → ∀ k i : Nat, (x.2.2 (4 + m))[k]? = some i → x.2.1 2 i 8 = (if k = 0 then none else (x.2.2 (4 + m))[k - 1]?) ∧ x.2.1 2 i 9 = (x.2.2 (4 + m))[k + 1]?) ∧
  (∀ m, m < b_nm σ → ∀ i ∈ x.2.2 (4 + m), i % 4 ≠ 0 → ∃ m', m' < b_nm σ ∧ i - 1 ∈ x.2.2 (4 + m')) ∧ b_cnt x (σ.2.2 0) ≤ 32
theorem v_nd {L : List Nat} (h : L.Nodup) {a b i : Nat} (ha : L[a]? = some i) (hb : L[b]? = some i) : a = b := by
  have h1 : a < L.length := by
    rcases Nat.lt_or_ge a L.length with z | z
    · exact z
    · rw [List.getElem?_eq_none z] at ha; cases ha
  exact (List.getElem?_inj h1 h).mp (ha.trans hb.symm)
theorem v_lt {L : List Nat} {a i : Nat} (ha : L[a]? = some i) : a < L.length := by
  rcases Nat.lt_or_ge a L.length with z | z
  · exact z
  · rw [List.getElem?_eq_none z] at ha; cases ha
theorem v_mem {L : List Nat} {i : Nat} (h : i ∈ L) : ∃ k : Nat, L[k]? = some i := List.mem_iff_getElem?.mp h
def v_mx (x : bt_X) : List Nat → Int32 → Int32
  | [], s => s
  | i :: os, s => v_mx x os (b_max s (x.1 2 i 11))
/-- while times are found -/
def v_CI (σ x : bt_X) : Prop :=
  (∀ m, m < b_nm σ → ∃ t : Nat, x.1 1 m 6 = nI t ∧ t ≤ (x.2.2 (4 + m)).length ∧ ∀ k i : Nat, (x.2.2 (4 + m))[k]? = some i → (i ∈ x.2.2 2 ↔ k < t)) ∧
  (∀ j, j < b_nj σ → ∃ c : Nat, x.1 0 j 4 = nI c ∧ c ≤ 4 ∧ ∀ k, k < 4 → (4 * j + k ∈ x.2.2 2 ↔ k < c)) ∧
  (x.2.2 2).Nodup ∧ (∀ i ∈ x.2.2 2, ∃ m, m < b_nm σ ∧ i ∈ x.2.2 (4 + m)) ∧
  (∀ n i : Nat, (x.2.2 2)[n]? = some i → ∀ a, σ.2.1 2 i 6 = some a ∨ x.2.1 2 i 8 = some a → ∃ n' : Nat, n' < n ∧ (x.2.2 2)[n']? = some a) ∧
  (∀ i ∈ x.2.2 2, x.1 2 i 10 = b_ls σ (b_m σ i) (b_rdy σ x i) (σ.1 2 i 3) ∧ x.1 2 i 11 = x.1 2 i 10 + σ.1 2 i 3) ∧
  x.1 4 0 5 = v_mx x (x.2.2 2) (nI 0)
section TICK
variable {σ x : bt_X} {m i : Nat}
def v_st (σ x : bt_X) (i : Nat) : Int32 := b_ls σ (b_m σ i) (b_rdy σ x i) (σ.1 2 i 3)
theorem v_t10 {i' : Nat} : (b_tick σ x m i).1 2 i' 10 = if i' = i then v_st σ x i else x.1 2 i' 10 := by
  unfold b_tick b_put6 b_put5 b_one b_put4
  rw [b_gs_ne (by omega), b_gs_ne (by omega), bt_lp_1]
  unfold b_put3
  rw [b_gs_ne (by omega)]
  unfold b_put2
  rw [b_gs_ne (by omega)]
  unfold b_put1
  by_cases e : i' = i
  · subst e; rw [b_gs_at, if_pos rfl]; rfl
  · rw [b_gs_ne (by omega), if_neg e]
theorem v_t11 {i' : Nat} : (b_tick σ x m i).1 2 i' 11 = if i' = i then v_st σ x i + σ.1 2 i 3 else x.1 2 i' 11 := by
  unfold b_tick b_put6 b_put5 b_one b_put4
  rw [b_gs_ne (by omega), b_gs_ne (by omega), bt_lp_1]
  unfold b_put3
  rw [b_gs_ne (by omega)]
  unfold b_put2
  by_cases e : i' = i
  · subst e; rw [b_gs_at, if_pos rfl]; unfold b_put1; rw [b_gs_at]; rfl
  · rw [b_gs_ne (by omega), if_neg e]; unfold b_put1; rw [b_gs_ne (by omega)]
theorem v_t5 : (b_tick σ x m i).1 4 0 5 = b_max (x.1 4 0 5) (v_st σ x i + σ.1 2 i 3) := by
  unfold b_tick b_put6 b_put5 b_one b_put4
  rw [b_gs_ne (by omega), b_gs_ne (by omega), bt_lp_1]
  unfold b_put3
  rw [b_gs_at]
  unfold b_put2
  rw [b_gs_at, b_gs_ne (by omega)]
  unfold b_put1
  rw [b_gs_at, b_gs_ne (by omega)]
  rfl
theorem v_t6 {m' : Nat} : (b_tick σ x m i).1 1 m' 6 = if m' = m then x.1 1 m 6 + nI 1 else x.1 1 m' 6 := by
  have e0 : ∀ m', (b_put5 (b_one σ x i) i).1 1 m' 6 = x.1 1 m' 6 := fun m' => by
    unfold b_put5 b_one b_put4
    rw [b_gs_ne (by omega), bt_lp_1]
    unfold b_put3
    rw [b_gs_ne (by omega)]
    unfold b_put2
    rw [b_gs_ne (by omega)]
    unfold b_put1
    rw [b_gs_ne (by omega)]
  unfold b_tick b_put6
  by_cases e : m' = m
  · subst e; rw [b_gs_at, if_pos rfl, e0]
  · rw [b_gs_ne (by omega), if_neg e, e0]
theorem v_t4 {j : Nat} : (b_tick σ x m i).1 0 j 4 = if j = i / 4 then x.1 0 j 4 + nI 1 else x.1 0 j 4 := by
  have e0 : ∀ j, (b_one σ x i).1 0 j 4 = x.1 0 j 4 := fun j => by
    unfold b_one b_put4
    rw [bt_lp_1]
    unfold b_put3
    rw [b_gs_ne (by omega)]
    unfold b_put2
    rw [b_gs_ne (by omega)]
    unfold b_put1
    rw [b_gs_ne (by omega)]
  unfold b_tick b_put6
  rw [b_gs_ne (by omega)]
  unfold b_put5
  by_cases e : j = i / 4
  · subst e; rw [b_gs_at, if_pos rfl, e0]
  · rw [b_gs_ne (by omega), if_neg e, e0]
theorem v_tr : (b_tick σ x m i).2.1 = x.2.1 := rfl
theorem v_tl {n : Nat} : (b_tick σ x m i).2.2 n = if n = 2 then x.2.2 2 ++ [i] else x.2.2 n := rfl
theorem v_W.ext {y : bt_X} (h : v_W σ x) (e1 : y.2.1 = x.2.1) (e2 : ∀ m, y.2.2 (4 + m) = x.2.2 (4 + m)) : v_W σ y := by
  obtain ⟨h1, h2, h3, h4⟩ := h
  refine ⟨fun m hm => by rw [e2]; exact h1 m hm, fun m hm k i hi => ?_, fun m hm i hi h0 => ?_, ?_⟩
  · rw [e2] at hi ⊢
    rw [e1]
    exact h2 m hm k i hi
  · rw [e2] at hi
    obtain ⟨m', q1, q2⟩ := h3 m hm i hi h0
    exact ⟨m', q1, by rw [e2]; exact q2⟩
  · rw [b_cnt_ext (x := x) (fun m _ => by rw [e2])]
    exact h4
theorem v_rdy_eq {x y : bt_X} {i : Nat} (e1 : y.2.1 = x.2.1) (h : ∀ a, σ.2.1 2 i 6 = some a ∨ x.2.1 2 i 8 = some a → y.1 2 a 11 = x.1 2 a 11) : b_rdy σ y i = b_rdy σ x i := by
  unfold b_rdy
  rw [e1]
  have g1 : b_free y (x.2.1 2 i 8) = b_free x (x.2.1 2 i 8) := by
    cases e : x.2.1 2 i 8 with
    | none => rfl
    | some a => exact h a (Or.inr e)
  have g2 : ((σ.2.1 2 i 6).map fun a => y.1 2 a 11) = ((σ.2.1 2 i 6).map fun a => x.1 2 a 11) := by
    cases e : σ.2.1 2 i 6 with
    | none => rfl
    | some a => exact congrArg some (h a (Or.inl e))
  rw [g1, g2]
theorem v_mx_ap {s : Int32} {i : Nat} : ∀ (L : List Nat) (s : Int32), v_mx x (L ++ [i]) s = b_max (v_mx x L s) (x.1 2 i 11) := by
  intro L
  induction L with
  | nil => intro s; rfl
  | cons a L ih => intro s; exact ih _
theorem v_mx_eq {y : bt_X} : ∀ (L : List Nat) (s : Int32), (∀ i ∈ L, y.1 2 i 11 = x.1 2 i 11) → v_mx y L s = v_mx x L s := by
  intro L
  induction L with
  | nil => intro s _; rfl
  | cons a L ih =>
    intro s h
    unfold v_mx
    rw [h a List.mem_cons_self]
    exact ih _ (fun i hi => h i (List.mem_cons_of_mem _ hi))
theorem v_len (hS : b_St σ) (hW : v_W σ x) {m : Nat} (hm : m < b_nm σ) : (x.2.2 (4 + m)).length ≤ 32 := Nat.le_trans (b_cnt_mem (by rw [hS.1]; exact List.mem_range.mpr hm)) hW.2.2.2
/-- one more gets its times -/
theorem v_tick (hS : b_St σ) (hO : v_O σ) (hW : v_W σ x) (hC : v_CI σ x) (hm : m < b_nm σ) {t : Nat} (ht : x.1 1 m 6 = nI t) (hi : (x.2.2 (4 + m))[t]? = some i) (hn : σ.1 2 i 1 = x.1 0 (i / 4) 4) : v_CI σ (b_tick σ x m i) ∧ v_W σ (b_tick σ x m i) := by
  have hlen := v_len hS hW hm
  obtain ⟨w1, w2, w3, w4⟩ := hW
  obtain ⟨c1, c2, c3, c4, c5, c6, c7⟩ := hC
  obtain ⟨n1, n2⟩ := w1 m hm
  obtain ⟨hop, hbm⟩ := n2 i (List.mem_of_getElem? hi)
  obtain ⟨-, -, onum, oJ, -, -, -⟩ := hO i hop
  have tlen := v_lt hi
  obtain ⟨t', ht', tle, hT⟩ := c1 m hm
  have ett : t' = t := (nI_eq (by omega) (by omega)).mp (ht'.symm.trans ht)
  subst ett
  obtain ⟨c, hc, hc4, hcT⟩ := c2 (i / 4) hop.1
  have ei : 4 * (i / 4) + i % 4 = i := by omega
  have ecn : i % 4 = c := by
    rw [hc, onum] at hn
    exact (nI_eq (by omega) (by omega)).mp hn
  have hnin : i ∉ x.2.2 2 := fun z => by
    have := (hcT (i % 4) (by omega)).mp (by rw [ei]; exact z)
    omega
  have hrows : ∀ m', (b_tick σ x m i).2.2 (4 + m') = x.2.2 (4 + m') := fun m' => by rw [v_tl, if_neg (by omega)]
  have hord : (b_tick σ x m i).2.2 2 = x.2.2 2 ++ [i] := by rw [v_tl, if_pos rfl]
  have hW2 : v_W σ (b_tick σ x m i) := v_W.ext ⟨w1, w2, w3, w4⟩ v_tr hrows
  have keep : ∀ a, a ∈ x.2.2 2 → (b_tick σ x m i).1 2 a 11 = x.1 2 a 11 ∧ (b_tick σ x m i).1 2 a 10 = x.1 2 a 10 := fun a ha => by
    have : a ≠ i := fun z => hnin (by rw [← z]; exact ha)
    rw [v_t11, v_t10, if_neg this, if_neg this]
    exact ⟨rfl, rfl⟩
  have hpred : ∀ a, σ.2.1 2 i 6 = some a ∨ x.2.1 2 i 8 = some a → a ∈ x.2.2 2 := fun a ha => by
    rcases ha with ha | ha
    · rw [oJ] at ha
      split at ha
      · cases ha
      · cases ha
        have := (hcT (i % 4 - 1) (by omega)).mpr (by omega)
        rw [show 4 * (i / 4) + (i % 4 - 1) = i - 1 by omega] at this
        exact this
    · rw [(w2 m hm t' i hi).1] at ha
      split at ha
      · cases ha
      · exact (hT (t' - 1) a ha).mpr (by omega)
  have hst : v_st σ x i = b_ls σ (b_m σ i) (b_rdy σ (b_tick σ x m i) i) (σ.1 2 i 3) := by
    unfold v_st
    rw [v_rdy_eq (x := x) (y := b_tick σ x m i) v_tr (fun a ha => (keep a (hpred a ha)).1)]
  refine ⟨⟨fun m' hm' => ?_, fun j hj => ?_, ?_, fun a ha => ?_, fun n a ha b hb => ?_, fun a ha => ?_, ?_⟩, hW2⟩
  · rw [hrows, v_t6, hord]
    obtain ⟨t2, q1, q2, q3⟩ := c1 m' hm'
    by_cases e : m' = m
    · subst e
      refine ⟨t' + 1, by rw [if_pos rfl, ht', nI_add], by omega, fun k a ha => ?_⟩
      rw [List.mem_append, List.mem_singleton, hT k a ha]
      constructor
      · rintro (h | h)
        · omega
        · subst h
          have := v_nd n1 ha hi
          omega
      · intro h
        rcases Nat.lt_or_ge k t' with z | z
        · exact Or.inl z
        · have : k = t' := by omega
          subst this
          rw [hi] at ha
          cases ha
          exact Or.inr rfl
    · refine ⟨t2, by rw [if_neg e]; exact q1, q2, fun k a ha => ?_⟩
      rw [List.mem_append, List.mem_singleton, q3 k a ha]
      constructor
      · rintro (h | h)
        · exact h
        · subst h
          exact absurd (((w1 m' hm').2 a (List.mem_of_getElem? ha)).2.symm.trans hbm) e
      · exact Or.inl
  · rw [v_t4, hord]
    obtain ⟨c', q1, q2, q3⟩ := c2 j hj
    by_cases e : j = i / 4
    · subst e
      have ecc : c' = c := (nI_eq (by omega) (by omega)).mp (q1.symm.trans hc)
      subst ecc
      refine ⟨c' + 1, by rw [if_pos rfl, hc, nI_add], by omega, fun k hk => ?_⟩
      rw [List.mem_append, List.mem_singleton, q3 k hk]
      constructor
      · rintro (h | h)
        · omega
        · omega
      · intro h
        rcases Nat.lt_or_ge k c' with z | z
        · exact Or.inl z
        · exact Or.inr (by omega)
    · refine ⟨c', by rw [if_neg e]; exact q1, q2, fun k hk => ?_⟩
      rw [List.mem_append, List.mem_singleton, q3 k hk]
      constructor
      · rintro (h | h)
        · exact h
        · exact absurd (show j = i / 4 by omega) e
      · exact Or.inl
  · rw [hord]
    refine List.nodup_append.mpr ⟨c3, by simp, fun a ha b hb => ?_⟩
    rw [List.mem_singleton] at hb
    subst hb
    exact fun z => hnin (by rw [← z]; exact ha)
  · rw [hord, List.mem_append, List.mem_singleton] at ha
    rcases ha with ha | rfl
    · obtain ⟨m', q1, q2⟩ := c4 a ha
      exact ⟨m', q1, by rw [hrows]; exact q2⟩
    · exact ⟨m, hm, by rw [hrows]; exact List.mem_of_getElem? hi⟩
  · rw [hord] at ha ⊢
    rw [v_tr] at hb
    rcases Nat.lt_or_ge n (x.2.2 2).length with z | z
    · rw [List.getElem?_append_left z] at ha
      obtain ⟨n', q1, q2⟩ := c5 n a ha b hb
      exact ⟨n', q1, by rw [List.getElem?_append_left (by omega)]; exact q2⟩
    · rw [List.getElem?_append_right z] at ha
      have e0 : n - (x.2.2 2).length = 0 := by
        have := v_lt ha
        simp at this
        omega
      rw [e0] at ha
      cases ha
      obtain ⟨n', q⟩ := v_mem (hpred b hb)
      exact ⟨n', by have := v_lt q; omega, by rw [List.getElem?_append_left (v_lt q)]; exact q⟩
  · rw [hord, List.mem_append, List.mem_singleton] at ha
    rcases ha with ha | rfl
    · obtain ⟨k1, k2⟩ := keep a ha
      obtain ⟨q1, q2⟩ := c6 a ha
      rw [k1, k2]
      refine ⟨q1.trans ?_, q2⟩
      obtain ⟨n, hn2⟩ := v_mem ha
      rw [v_rdy_eq (x := x) (y := b_tick σ x m i) v_tr (fun b hb => ?_)]
      obtain ⟨n', -, q⟩ := c5 n a hn2 b hb
      exact (keep b (List.mem_of_getElem? q)).1
    · rw [v_t10, v_t11, if_pos rfl, if_pos rfl]
      exact ⟨hst, rfl⟩
  · rw [hord, v_t5, v_mx_ap (s := nI 0), v_mx_eq (x := x) _ _ (fun a ha => (keep a ha).1), ← c7, v_t11, if_pos rfl]
end TICK

