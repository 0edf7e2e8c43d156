/-! ===== latest starts: the same ===== -/
section VE
variable {σ x y w z : bt_X}
def v_fT (T : Nat → Nat) (P : Nat) (a : Option Nat) : Nat := match a with
  | none => P
  | some a => T a
def v_fB (σ : bt_X) (T : Nat → Nat) (P i : Nat) (b : Option Nat) : Nat := match b with
  | none => P
  | some b => T b - v_su σ (b_fn σ i) (b_fn σ b)
/-- the latest finish -/
def v_lf (σ : bt_X) (T : Nat → Nat) (P : Nat) (af bm : Option Nat) (i : Nat) : Nat := min (min P (v_fT T P af)) (v_fB σ T P i bm)
def v_gsN (σ : bt_X) (m t l : Nat) : Nat := if σ.1 1 m 3 = nI 0 then t else if nN (σ.1 1 m 5) ≤ t then t else if t + l ≤ nN (σ.1 1 m 4) then t else nN (σ.1 1 m 4) - l
/-- no minute of it is one of the breakdown -/
def v_ok (σ : bt_X) (m s l : Nat) : Prop := σ.1 1 m 3 = nI 0 ∨ nN (σ.1 1 m 5) ≤ s ∨ s + l ≤ nN (σ.1 1 m 4)
theorem v_lsN_ok {m r l : Nat} : v_ok σ m (v_lsN σ m r l) l := by
  unfold v_ok v_lsN
  by_cases c : σ.1 1 m 3 = nI 0
  · exact Or.inl c
  · rw [if_neg c]
    split
    · exact Or.inr (Or.inl (by assumption))
    · split
      · exact Or.inr (Or.inr (by assumption))
      · exact Or.inr (Or.inl (Nat.le_refl _))
theorem v_gsN_ge {m s t l : Nat} (h : v_ok σ m s l) (hs : s ≤ t) : s ≤ v_gsN σ m t l ∧ v_gsN σ m t l ≤ t := by
  unfold v_gsN
  by_cases c : σ.1 1 m 3 = nI 0
  · rw [if_pos c]; exact ⟨hs, Nat.le_refl _⟩
  · rw [if_neg c]
    have h2 := h.resolve_left c
    split
    · exact ⟨hs, Nat.le_refl _⟩
    · split
      · exact ⟨hs, Nat.le_refl _⟩
      · omega
theorem v_gsE (hM : v_M σ) {m s t l : Nat} (hm : m < b_nm σ) (h : v_ok σ m s l) (hs : s ≤ t) (ht : t < 900000) (hl : l ≤ 200) : b_gs σ m (nI t) (nI l) = nI (v_gsN σ m t l) ∧
    (if σ.1 1 m 3 = nI 0 then nI 0 else σ.1 1 m 5) = (if σ.1 1 m 3 = nI 0 then nI 0 else σ.1 1 m 5) := by
  refine ⟨?_, rfl⟩
  obtain ⟨h1, h2⟩ := hM m hm
  unfold v_ok at h
  unfold b_gs b_isB v_gsN
  by_cases c : σ.1 1 m 3 = nI 0
  · rw [if_pos (show σ.1 1 m 3 = 0 from c), if_pos (show nI 0 = 0 from rfl), if_pos c]
  · obtain ⟨a, b, e4, e5, hab, hb⟩ := h2 c
    have h3 := h.resolve_left c
    rw [e4, e5, show nN (nI a) = a from nI_clamp (by omega), show nN (nI b) = b from nI_clamp (by omega)] at h3
    rw [if_neg (show ¬ σ.1 1 m 3 = 0 from c), if_neg c, e4, e5, show nN (nI a) = a from nI_clamp (by omega), show nN (nI b) = b from nI_clamp (by omega)]
    by_cases d : b ≤ t
    · rw [if_pos ((nI_leI (by omega) (by omega)).mpr d), if_pos (show nI 0 = 0 from rfl), if_pos d]
    · rw [if_neg (fun z => d ((nI_leI (by omega) (by omega)).mp z)), if_neg d, nI_add]
      by_cases e : t + l ≤ a
      · rw [if_pos ((nI_leI (by omega) (by omega)).mpr e), if_pos (show nI 0 = 0 from rfl), if_pos e]
      · rw [if_neg (fun z => e ((nI_leI (by omega) (by omega)).mp z)), if_neg (show ¬ nI 1 = 0 by decide), if_neg e, pk_sub (by omega)]
/-- who comes behind -/
theorem v_behind (h : v_Inv σ x) {i : Nat} (hi : i ∈ x.2.2 2) :
    (∀ a, σ.2.1 2 i 7 = some a → a ∈ x.2.2 2 ∧ σ.2.1 2 a 6 = some i ∧ v_s x i + v_ln σ i ≤ v_s x a) ∧
    (∀ b, x.2.1 2 i 9 = some b → b ∈ x.2.2 2 ∧ x.2.1 2 b 8 = some i ∧ v_s x i + v_ln σ i + v_su σ (b_fn σ i) (b_fn σ b) ≤ v_s x b) := by
  obtain ⟨hSo, hS⟩ := v_Sx h
  have hop := (hS i hi).1
  obtain ⟨m, hm, him⟩ := hSo.2.1 i hi
  obtain ⟨k, hk⟩ := v_mem him
  refine ⟨fun a ha => ?_, fun b hb => ?_⟩
  · rw [(h.1.1.2.1 i hop).2.2.2.2.1] at ha
    split at ha
    · rename_i c
      cases ha
      have hp4 := (h.1.1.1.2.2.2.2 _ hop.1).2
      have ed : (i + 1) / 4 = i / 4 := by omega
      have em : (i + 1) % 4 = i % 4 + 1 := by omega
      have hop2 : v_op σ (i + 1) := ⟨by rw [ed]; exact hop.1, by rw [ed, em]; exact c⟩
      have hpl := (h.1.2.2.2.1 i hop).mp ⟨m, hm, him⟩
      have hmem := v_pl_ord h hop2 (by rw [ed]; exact hpl)
      have e6 : σ.2.1 2 (i + 1) 6 = some i := by
        rw [(h.1.1.2.1 _ hop2).2.2.2.1, if_neg (by omega)]
        rfl
      exact ⟨hmem, e6, (v_ahead_le h hmem (Or.inl e6)).2⟩
    · cases ha
  · rw [(h.1.2.1.2.1 m hm k i hk).2] at hb
    have hbm := List.mem_of_getElem? hb
    have hmem := hSo.1 m hm b hbm
    have e8 : x.2.1 2 b 8 = some i := by
      rw [(h.1.2.1.2.1 m hm (k + 1) b hb).1, if_neg (by omega)]
      exact hk
    refine ⟨hmem, e8, ?_⟩
    have hmb := ((h.1.2.1.1 m hm).2 b hbm).2
    rw [(hSo.2.2.2.2.2 b hmem).1]
    refine Nat.le_trans ?_ (v_lsN_ge h.1.1.2.2.1 (by rw [hmb]; exact hm))
    unfold v_rN
    rw [e8]
    exact Nat.le_max_left _ _
/-- what comes behind has its latest starts -/
def v_T (σ x : bt_X) (T : Nat → Nat) (P i : Nat) : Prop := ∀ a, σ.2.1 2 i 7 = some a ∨ x.2.1 2 i 9 = some a → v_s x a ≤ T a ∧ T a ≤ P
theorem v_lf_b (h : v_Inv σ x) {i P : Nat} (hi : i ∈ x.2.2 2) {T : Nat → Nat} (hT : v_T σ x T P i) (hP : v_s x i + v_ln σ i ≤ P) : v_s x i + v_ln σ i ≤ v_lf σ T P (σ.2.1 2 i 7) (x.2.1 2 i 9) i ∧ v_lf σ T P (σ.2.1 2 i 7) (x.2.1 2 i 9) i ≤ P := by
  obtain ⟨b1, b2⟩ := v_behind h hi
  have h1 : v_s x i + v_ln σ i ≤ v_fT T P (σ.2.1 2 i 7) := by
    cases e : σ.2.1 2 i 7 with
    | none => exact hP
    | some a => have := (b1 a e).2.2; have := (hT a (Or.inl e)).1; show _ ≤ T a; omega
  have h2 : v_s x i + v_ln σ i ≤ v_fB σ T P i (x.2.1 2 i 9) := by
    cases e : x.2.1 2 i 9 with
    | none => exact hP
    | some b => have := (b2 b e).2.2; have := (hT b (Or.inr e)).1; show _ ≤ T b - _; omega
  unfold v_lf
  omega
def v_t1 (σ x : bt_X) (T : Nat → Nat) (P i : Nat) : Nat := v_gsN σ (b_m σ i) (v_lf σ T P (σ.2.1 2 i 7) (x.2.1 2 i 9) i - v_ln σ i) (v_ln σ i)
theorem v_t1_b (h : v_Inv σ x) {i P : Nat} (hi : i ∈ x.2.2 2) {T : Nat → Nat} (hT : v_T σ x T P i) (hP : v_s x i + v_ln σ i ≤ P) : v_s x i ≤ v_t1 σ x T P i ∧ v_t1 σ x T P i ≤ P := by
  obtain ⟨l1, l2⟩ := v_lf_b h hi hT hP
  obtain ⟨hSo, hS⟩ := v_Sx h
  have hok : v_ok σ (b_m σ i) (v_s x i) (v_ln σ i) := by rw [(hSo.2.2.2.2.2 i hi).1]; exact v_lsN_ok
  have := v_gsN_ge (t := v_lf σ T P (σ.2.1 2 i 7) (x.2.1 2 i 9) i - v_ln σ i) hok (by omega)
  unfold v_t1
  omega
/-- the class's -/
theorem v_latc (h : v_Inv σ x) {i P : Nat} (hi : i ∈ x.2.2 2) {T : Nat → Nat} (hT : v_T σ x T P i) (hP : v_s x i + v_ln σ i ≤ P) (hP2 : P < 800000) (hz2 : z.2 = x.2) (h5 : z.1 4 0 5 = nI P) (hz : ∀ a, σ.2.1 2 i 7 = some a ∨ x.2.1 2 i 9 = some a → z.1 2 a 13 = nI (T a)) :
    b_gs σ (b_m σ i) (b_lfin σ z i - σ.1 2 i 3) (σ.1 2 i 3) = nI (v_t1 σ x T P i) := by
  obtain ⟨l1, l2⟩ := v_lf_b h hi hT hP
  obtain ⟨hSo, hS⟩ := v_Sx h
  obtain ⟨b1, b2⟩ := v_behind h hi
  have hop := (hS i hi).1
  have hl := v_lnE h.1.1.2.1 hop
  obtain ⟨m, hm, him⟩ := hSo.2.1 i hi
  have hbm := ((h.1.2.1.1 m hm).2 i him).2
  have hok : v_ok σ (b_m σ i) (v_s x i) (v_ln σ i) := by rw [(hSo.2.2.2.2.2 i hi).1]; exact v_lsN_ok
  have mn : ∀ a b : Nat, a < 900000 → b < 900000 → (if nI b < nI a then nI b else nI a) = nI (min a b) := fun a b ha hb => by
    by_cases c : b < a
    · rw [if_pos ((nI_ltI (by omega) (by omega)).mpr c), Nat.min_eq_right (by omega)]
    · rw [if_neg (fun q => c ((nI_ltI (by omega) (by omega)).mp q)), Nat.min_eq_left (by omega)]
  have e1 : b_mn (z.1 4 0 5) ((σ.2.1 2 i 7).map fun a => z.1 2 a 13) = nI (min P (v_fT T P (σ.2.1 2 i 7))) := by
    rw [h5]
    cases e : σ.2.1 2 i 7 with
    | none => show nI P = nI (min P P); rw [Nat.min_self]
    | some a =>
      show (if z.1 2 a 13 < nI P then z.1 2 a 13 else nI P) = nI (min P (T a))
      rw [hz a (Or.inl e)]
      have := (hT a (Or.inl e)).2
      exact mn P (T a) (by omega) (by omega)
  have e2 : b_lfin σ z i = nI (v_lf σ T P (σ.2.1 2 i 7) (x.2.1 2 i 9) i) := by
    unfold b_lfin v_lf
    rw [e1, hz2]
    have hq : min P (v_fT T P (σ.2.1 2 i 7)) ≤ P := Nat.min_le_left _ _
    cases e : x.2.1 2 i 9 with
    | none =>
      show nI _ = nI (min _ P)
      rw [Nat.min_eq_left hq]
    | some b =>
      show (if z.1 2 b 13 - σ.1 8 (1 + b_fn σ i) (b_fn σ b) < nI _ then z.1 2 b 13 - σ.1 8 (1 + b_fn σ i) (b_fn σ b) else nI _) = nI (min _ (T b - v_su σ (b_fn σ i) (b_fn σ b)))
      have hbL := (b2 b e).1
      have hopb := (hS b hbL).1
      obtain ⟨s1, s2⟩ := v_suE h.1.1.2.2.2.1 (h.1.1.2.1 i hop).2.1.2 (h.1.1.2.1 b hopb).2.1.2
      have hb3 := (b2 b e).2.2
      obtain ⟨t1, t2⟩ := hT b (Or.inr e)
      rw [hz b (Or.inr e), s1, pk_sub (by omega)]
      exact mn _ _ (by omega) (by omega)
  rw [e2, hl.1, pk_sub (by omega)]
  exact (v_gsE h.1.1.2.2.1 (by rw [hbm]; exact hm) hok (by omega) (by omega) hl.2.2).1
/-- one after the other, from the last one on -/
theorem v_latL (h : v_Inv σ x) : ∀ (n : Nat) (z : bt_X), n ≤ (x.2.2 2).length → z.2 = x.2 →
    (∀ i, i ∉ (x.2.2 2).take n → (b_latL σ z ((x.2.2 2).take n).reverse).1 2 i 13 = z.1 2 i 13) ∧ (∀ c i k, ¬ (c = 2 ∧ k = 13) → (b_latL σ z ((x.2.2 2).take n).reverse).1 c i k = z.1 c i k) ∧
    ∀ k i : Nat, k < n → (x.2.2 2)[k]? = some i → (b_latL σ z ((x.2.2 2).take n).reverse).1 2 i 13 = b_gs σ (b_m σ i) (b_lfin σ (b_latL σ z ((x.2.2 2).take n).reverse) i - σ.1 2 i 3) (σ.1 2 i 3) := by
  obtain ⟨hSo, hS⟩ := v_Sx h
  intro n
  induction n with
  | zero => intro z _ _; exact ⟨fun _ _ => rfl, fun _ _ _ _ => rfl, fun k i hk => by omega⟩
  | succ n ih =>
    intro z hn hz2
    have hg := List.getElem?_eq_getElem (show n < (x.2.2 2).length by omega)
    have et : (x.2.2 2).take (n + 1) = (x.2.2 2).take n ++ [(x.2.2 2)[n]] := by rw [List.take_succ_eq_append_getElem (by omega)]
    generalize ho : (x.2.2 2)[n] = o at hg et
    have er : b_latL σ z ((x.2.2 2).take (n + 1)).reverse = b_latL σ (b_lat1 σ z o) ((x.2.2 2).take n).reverse := by
      rw [et, List.reverse_append]
      rfl
    have h1 : ∀ c i k, ¬ (c = 2 ∧ i = o ∧ k = 13) → (b_lat1 σ z o).1 c i k = z.1 c i k := fun c i k hc => b_gs_ne hc
    have hz3 : (b_lat1 σ z o).2 = x.2 := hz2
    obtain ⟨g1, g2, g3⟩ := ih (b_lat1 σ z o) (by omega) hz3
    have hnin : o ∉ (x.2.2 2).take n := fun q => by
      obtain ⟨k, hk⟩ := v_mem q
      have hkn := v_lt hk
      rw [List.length_take] at hkn
      rw [List.getElem?_take_of_lt (by omega)] at hk
      have := v_nd hSo.2.2.2.1 hk hg
      omega
    rw [er]
    refine ⟨fun i hi => ?_, fun c i k hc => (g2 c i k hc).trans (h1 c i k (by omega)), fun k i hk hi => ?_⟩
    · rw [et, List.mem_append, List.mem_singleton] at hi
      rw [g1 i (fun q => hi (Or.inl q)), h1 2 i 13 (fun q => hi (Or.inr q.2.1))]
    · rcases Nat.lt_or_ge k n with q | q
      · exact g3 k i q hi
      · have : k = n := by omega
        subst this
        rw [hg] at hi
        cases hi
        rw [g1 o hnin]
        have hoL := List.mem_of_getElem? hg
        obtain ⟨b1, b2⟩ := v_behind h hoL
        -- what comes behind is not told anew
        have later : ∀ a, σ.2.1 2 o 7 = some a ∨ x.2.1 2 o 9 = some a → (b_latL σ (b_lat1 σ z o) ((x.2.2 2).take k).reverse).1 2 a 13 = z.1 2 a 13 := fun a ha => by
          have hpa : σ.2.1 2 a 6 = some o ∨ x.2.1 2 a 8 = some o := ha.imp (fun q => (b1 a q).2.1) (fun q => (b2 a q).2.1)
          have haL : a ∈ x.2.2 2 := by
            rcases ha with q | q
            · exact (b1 a q).1
            · exact (b2 a q).1
          obtain ⟨na, hna⟩ := v_mem haL
          obtain ⟨n', r1, r2⟩ := hSo.2.2.1 na a hna o hpa
          have en : n' = k := v_nd hSo.2.2.2.1 r2 hg
          have hano : a ≠ o := fun q => by
            subst q
            have := v_nd hSo.2.2.2.1 hna hg
            omega
          rw [g1 a (fun q => ?_), h1 2 a 13 (fun q => hano q.2.1)]
          obtain ⟨k2, hk2⟩ := v_mem q
          have hkn := v_lt hk2
          rw [List.length_take] at hkn
          rw [List.getElem?_take_of_lt (by omega)] at hk2
          have := v_nd hSo.2.2.2.1 hk2 hna
          omega
        have el : (b_latL σ (b_lat1 σ z o) ((x.2.2 2).take k).reverse).2 = x.2 := (b_latL_2 _ _).trans hz3
        have ef : b_lfin σ (b_latL σ (b_lat1 σ z o) ((x.2.2 2).take k).reverse) o = b_lfin σ z o := by
          unfold b_lfin
          rw [el, hz2, g2 4 0 5 (by omega), h1 4 0 5 (by omega)]
          have f1 : ((σ.2.1 2 o 7).map fun a => (b_latL σ (b_lat1 σ z o) ((x.2.2 2).take k).reverse).1 2 a 13) = ((σ.2.1 2 o 7).map fun a => z.1 2 a 13) := by
            cases e : σ.2.1 2 o 7 with
            | none => rfl
            | some a => exact congrArg some (later a (Or.inl e))
          have f2 : ((x.2.1 2 o 9).map fun b => (b_latL σ (b_lat1 σ z o) ((x.2.2 2).take k).reverse).1 2 b 13 - b_bet σ (some o) b) = ((x.2.1 2 o 9).map fun b => z.1 2 b 13 - b_bet σ (some o) b) := by
            cases e : x.2.1 2 o 9 with
            | none => rfl
            | some b => exact congrArg some (congrArg (fun v => v - b_bet σ (some o) b) (later b (Or.inr e)))
          rw [f1, f2]
        rw [ef]
        unfold b_lat1
        rw [b_gs_at]
def v_tT (σ x : bt_X) (i : Nat) : Nat := nN ((b_lat σ x).1 2 i 13)
theorem v_lat_s (h : v_Inv σ x) : ∃ P, P < 800000 ∧ x.1 4 0 5 = nI P ∧ (∀ i ∈ x.2.2 2, v_s x i + v_ln σ i ≤ P) ∧ (∀ i ∈ x.2.2 2, (b_lat σ x).1 2 i 13 = nI (v_tT σ x i) ∧ v_s x i ≤ v_tT σ x i ∧ v_tT σ x i ≤ P ∧ v_tT σ x i = v_t1 σ x (v_tT σ x) P i) ∧ (b_lat σ x).2 = x.2 ∧ ∀ c i k, ¬ (c = 2 ∧ k = 13) → (b_lat σ x).1 c i k = x.1 c i k := by
  obtain ⟨hSo, hS⟩ := v_Sx h
  obtain ⟨M, a1, a2, a3, a4, a5⟩ := v_mx_s (x := x) (F := fun i => v_s x i + v_ln σ i) (x.2.2 2) 0 (by decide) (fun i hi => by
    obtain ⟨q1, q2, q3, q4⟩ := hS i hi
    have := v_lnE h.1.1.2.1 q1
    exact ⟨q3, by omega⟩)
  have h5 : x.1 4 0 5 = nI M := h.1.2.2.2.2.1.2.2.2.2.2.2.trans a1
  have hM : M < 800000 := by
    rcases a5 with a5 | ⟨i, hi, a5⟩
    · omega
    · obtain ⟨q1, q2, q3, q4⟩ := hS i hi
      have := v_lnE h.1.1.2.1 q1
      omega
  obtain ⟨g1, g2, g3⟩ := v_latL h (x.2.2 2).length x (Nat.le_refl _) rfl
  rw [List.take_length] at g1 g2 g3
  have e2 : (b_lat σ x).2 = x.2 := b_latL_2 _ _
  refine ⟨M, hM, h5, a4, ?_, e2, g2⟩
  have key : ∀ d k i, k + d = (x.2.2 2).length → (x.2.2 2)[k]? = some i → (b_lat σ x).1 2 i 13 = nI (v_tT σ x i) ∧ v_s x i ≤ v_tT σ x i ∧ v_tT σ x i ≤ M ∧ v_tT σ x i = v_t1 σ x (v_tT σ x) M i := by
    intro d
    induction d using Nat.strongRecOn with
    | ind d ih =>
      intro k i hk hi
      have hiL := List.mem_of_getElem? hi
      obtain ⟨b1, b2⟩ := v_behind h hiL
      have hb : ∀ a, σ.2.1 2 i 7 = some a ∨ x.2.1 2 i 9 = some a → (b_lat σ x).1 2 a 13 = nI (v_tT σ x a) ∧ v_s x a ≤ v_tT σ x a ∧ v_tT σ x a ≤ M := fun a ha => by
        have hpa : σ.2.1 2 a 6 = some i ∨ x.2.1 2 a 8 = some i := ha.imp (fun q => (b1 a q).2.1) (fun q => (b2 a q).2.1)
        have haL : a ∈ x.2.2 2 := by
          rcases ha with q | q
          · exact (b1 a q).1
          · exact (b2 a q).1
        obtain ⟨na, hna⟩ := v_mem haL
        obtain ⟨n', r1, r2⟩ := hSo.2.2.1 na a hna i hpa
        have en : n' = k := v_nd hSo.2.2.2.1 r2 hi
        have hl := v_lt hna
        obtain ⟨q1, q2, q3, -⟩ := ih ((x.2.2 2).length - na) (by omega) na a (by omega) hna
        exact ⟨q1, q2, q3⟩
      have hT : v_T σ x (v_tT σ x) M i := fun a ha => (hb a ha).2
      have e := g3 k i (v_lt hi) hi
      have e' : (b_lat σ x).1 2 i 13 = b_gs σ (b_m σ i) (b_lfin σ (b_lat σ x) i - σ.1 2 i 3) (σ.1 2 i 3) := e
      rw [v_latc h hiL hT (a4 i hiL) hM e2 ((g2 4 0 5 (by omega)).trans h5) (fun a ha => (hb a ha).1)] at e'
      have hbd := v_t1_b h hiL hT (a4 i hiL)
      have et : v_tT σ x i = v_t1 σ x (v_tT σ x) M i := by
        show nN _ = _
        rw [e']
        exact nI_clamp (by omega)
      exact ⟨by rw [e', et], by omega, by omega, et⟩
  intro i hi
  obtain ⟨k, hk⟩ := v_mem hi
  exact key ((x.2.2 2).length - k) k i (by have := v_lt hk; omega) hk
end VE

