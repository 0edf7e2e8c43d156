/-! ===== latest starts: the reference's ===== -/
section VF
variable {σ x w z : bt_X}
theorem v_aft (h : v_Inv σ x) (hZ : v_Zl σ x z) {i : Nat} (hi : i ∈ x.2.2 2) : m_aft z i = σ.2.1 2 i 7 := by
  obtain ⟨hSo, hS⟩ := v_Sx h
  have hop := (hS i hi).1
  obtain ⟨b1, -⟩ := v_behind h hi
  obtain ⟨m, hm, him⟩ := hSo.2.1 i hi
  have e7 := (h.1.1.2.1 i hop).2.2.2.2.1
  have hp4 := (h.1.1.1.2.2.2.2 _ hop.1).2
  have h32 := v_op32 h.1.1.1 hop
  unfold m_aft
  by_cases c : i % 4 + 1 < b_np σ (i / 4)
  · rw [if_pos c] at e7
    obtain ⟨m', hm', him'⟩ := hSo.2.1 (i + 1) (b1 _ e7).1
    have := (v_Zl_row h.1.1.1 h.1.1.2.1 h.1.2.1 h.2.2.2 h.2.2.1 hZ hm' him').1
    rw [if_neg (by omega), if_neg this, e7]
  · rw [if_neg c] at e7
    rw [e7]
    by_cases d : (i + 1) % 4 = 0
    · rw [if_pos d]
    · rw [if_neg d, if_pos]
      have h1 : i + 1 < 32 := by omega
      rw [hZ 26 _ (by omega)]
      refine v_lays_out h.1.1.1 h.2.2.2 h.2.2.1.1 h1 (fun m' hm' hin => ?_)
      have hop2 := ((h.1.2.1.1 m' hm').2 _ hin).1
      have ed : (i + 1) / 4 = i / 4 := by omega
      have := hop2.2
      rw [ed] at this
      omega
/-- one latest start of the reference -/
theorem v_las (h : v_Inv σ x) (hZ : v_Zl σ x z) {i P : Nat} (hi : i ∈ x.2.2 2) {T : Nat → Nat} (hT : v_T σ x T P i) (hP : v_s x i + v_ln σ i ≤ P) (hP2 : P < 800000) (hz : ∀ a, σ.2.1 2 i 7 = some a ∨ x.2.1 2 i 9 = some a → z.1 8 30 a = nI (T a)) :
    m_las σ z i (nI P) = nI (v_t1 σ x T P i) := by
  obtain ⟨l1, l2⟩ := v_lf_b h hi hT hP
  obtain ⟨hSo, hS⟩ := v_Sx h
  obtain ⟨b1, b2⟩ := v_behind h hi
  have hop := (hS i hi).1
  have hl := v_lnE h.1.1.2.1 hop
  obtain ⟨m, hm, him⟩ := hSo.2.1 i hi
  have hbm := ((h.1.2.1.1 m hm).2 i him).2
  obtain ⟨-, -, -, e28⟩ := v_Zl_row h.1.1.1 h.1.1.2.1 h.1.2.1 h.2.2.2 h.2.2.1 hZ hm him
  obtain ⟨-, -, -, ro, rm, rs, -⟩ := h.2.2.1
  obtain ⟨o1, o2, o3, o4⟩ := ro i hop
  have mn : ∀ a b : Nat, a < 900000 → b < 900000 → (if nI a ≤ nI b then nI a else nI b) = nI (min a b) := fun a b ha hb => by
    by_cases c : a ≤ b
    · rw [if_pos ((nI_leI (by omega) (by omega)).mpr c), Nat.min_eq_left c]
    · rw [if_neg (fun q => c ((nI_leI (by omega) (by omega)).mp q)), Nat.min_eq_right (by omega)]
  have e1 : m_ls1 z i (nI P) = nI (min P (v_fT T P (σ.2.1 2 i 7))) := by
    unfold m_ls1
    rw [v_aft h hZ hi]
    cases e : σ.2.1 2 i 7 with
    | none => show nI P = nI (min P P); rw [Nat.min_self]
    | some a =>
      show (if nI P ≤ z.1 8 30 a then nI P else z.1 8 30 a) = nI (min P (T a))
      rw [hz a (Or.inl e)]
      have := (hT a (Or.inl e)).2
      exact mn P (T a) (by omega) (by omega)
  have e2 : m_ls2 σ z i (m_ls1 z i (nI P)) = nI (v_lf σ T P (σ.2.1 2 i 7) (x.2.1 2 i 9) i) := by
    unfold m_ls2 v_lf
    rw [e1, e28]
    have hq : min P (v_fT T P (σ.2.1 2 i 7)) ≤ P := Nat.min_le_left _ _
    cases e : x.2.1 2 i 9 with
    | none =>
      show nI _ = nI (min _ P)
      rw [Nat.min_eq_left hq]
    | some b =>
      show (if nI _ ≤ m_oth σ z i b then nI _ else m_oth σ z i b) = nI (min _ (T b - v_su σ (b_fn σ i) (b_fn σ b)))
      have hbL := (b2 b e).1
      have hopb := (hS b hbL).1
      have hfi := (h.1.1.2.1 i hop).2.1.2
      have hfb := (h.1.1.2.1 b hopb).2.1.2
      obtain ⟨s1, s2⟩ := v_suE h.1.1.2.2.2.1 hfi hfb
      have hb3 := (b2 b e).2.2
      obtain ⟨t1, t2⟩ := hT b (Or.inr e)
      unfold m_oth
      rw [hz b (Or.inr e), o3, (ro b hopb).2.2.1, rs _ _ hfi hfb, s1, pk_sub (by omega)]
      exact mn _ _ (by omega) (by omega)
  unfold m_las
  rw [e2, o2, hl.1, pk_sub (by omega)]
  unfold v_t1
  have hok : v_ok σ (b_m σ i) (v_s x i) (v_ln σ i) := by rw [(hSo.2.2.2.2.2 i hi).1]; exact v_lsN_ok
  have ht : v_lf σ T P (σ.2.1 2 i 7) (x.2.1 2 i 9) i - v_ln σ i < 900000 := by omega
  have hs : v_s x i ≤ v_lf σ T P (σ.2.1 2 i 7) (x.2.1 2 i 9) i - v_ln σ i := by omega
  generalize v_lf σ T P (σ.2.1 2 i 7) (x.2.1 2 i 9) i - v_ln σ i = t at ht hs ⊢
  unfold m_ls3 v_gsN
  rw [o1, o2, hl.1]
  have hmm : b_m σ i < b_nm σ := by rw [hbm]; exact hm
  obtain ⟨-, q0, q1⟩ := rm _ hmm
  obtain ⟨v1, v2⟩ := h.1.1.2.2.1 _ hmm
  unfold v_ok at hok
  by_cases c : σ.1 1 (b_m σ i) 3 = nI 0
  · obtain ⟨q2, q3⟩ := q0 c
    rw [q3, if_pos (nI_leI (by omega) (by omega) |>.mpr (Nat.zero_le t)), if_pos c]
  · obtain ⟨q2, q3⟩ := q1 c
    obtain ⟨a, b, e4, e5, hab, hb⟩ := v2 c
    have h3 := hok.resolve_left c
    rw [e4, e5, show nN (nI a) = a from nI_clamp (by omega), show nN (nI b) = b from nI_clamp (by omega)] at h3
    rw [q2, q3, if_neg c, e4, e5, show nN (nI a) = a from nI_clamp (by omega), show nN (nI b) = b from nI_clamp (by omega)]
    by_cases d : b ≤ t
    · rw [if_pos ((nI_leI (by omega) (by omega)).mpr d), if_pos d]
    · rw [if_neg (fun q => d ((nI_leI (by omega) (by omega)).mp q)), if_neg d, nI_add]
      by_cases e : t + v_ln σ i ≤ a
      · rw [if_pos ((nI_leI (by omega) (by omega)).mpr e), if_pos e]
      · rw [if_neg (fun q => e ((nI_leI (by omega) (by omega)).mp q)), if_neg e, pk_sub (by omega)]
/-- settled from there on -/
def v_D (x z : bt_X) (T : Nat → Nat) (K : Nat) : Prop := ∀ k i : Nat, K ≤ k → (x.2.2 2)[k]? = some i → z.1 8 30 i = nI (T i)
theorem v_las2 (h : v_Inv σ x) (hZ : v_Zl σ x z) {P : Nat} {T : Nat → Nat} (hP : ∀ i ∈ x.2.2 2, v_s x i + v_ln σ i ≤ P) (hP2 : P < 800000) (hT : ∀ i ∈ x.2.2 2, v_s x i ≤ T i ∧ T i ≤ P ∧ T i = v_t1 σ x T P i) {K k i : Nat} (hD : v_D x z T (K + 1)) (hk : K ≤ k) (hi : (x.2.2 2)[k]? = some i) : m_las σ z i (nI P) = nI (T i) := by
  obtain ⟨hSo, hS⟩ := v_Sx h
  have hiL := List.mem_of_getElem? hi
  obtain ⟨b1, b2⟩ := v_behind h hiL
  have hin : ∀ a, σ.2.1 2 i 7 = some a ∨ x.2.1 2 i 9 = some a → a ∈ x.2.2 2 := fun a ha => by
    rcases ha with q | q
    · exact (b1 a q).1
    · exact (b2 a q).1
  have hT2 : v_T σ x T P i := fun a ha => ⟨(hT a (hin a ha)).1, (hT a (hin a ha)).2.1⟩
  rw [v_las h hZ hiL hT2 (hP i hiL) hP2 (fun a ha => ?_), ← (hT i hiL).2.2]
  obtain ⟨na, hna⟩ := v_mem (hin a ha)
  have hpa : σ.2.1 2 a 6 = some i ∨ x.2.1 2 a 8 = some i := ha.imp (fun q => (b1 a q).2.1) (fun q => (b2 a q).2.1)
  obtain ⟨n', r1, r2⟩ := hSo.2.2.1 na a hna i hpa
  have en : n' = k := v_nd hSo.2.2.2.1 r2 hi
  exact hD na a (by omega) hna
theorem v_isin (h : v_Inv σ x) (hZ : v_Zl σ x z) {i : Nat} (hi : i ∈ x.2.2 2) : ¬ z.1 8 26 i = 0 := by
  obtain ⟨hSo, -⟩ := v_Sx h
  obtain ⟨m, hm, him⟩ := hSo.2.1 i hi
  exact (v_Zl_row h.1.1.1 h.1.1.2.1 h.1.2.1 h.2.2.2 h.2.2.1 hZ hm him).1
theorem v_wb1 (h : v_Inv σ x) {P : Nat} {T : Nat → Nat} (hP : ∀ i ∈ x.2.2 2, v_s x i + v_ln σ i ≤ P) (hP2 : P < 800000) (hT : ∀ i ∈ x.2.2 2, v_s x i ≤ T i ∧ T i ≤ P ∧ T i = v_t1 σ x T P i) {K : Nat} : ∀ (n p : Nat) (z : bt_X), n + p = 32 → v_Zl σ x z → v_D x z T (K + 1) → (∀ i, (x.2.2 2)[K]? = some i → i < p → z.1 8 30 i = nI (T i)) → v_D x (m_wb1 σ (nI P) n p z) T K := by
  obtain ⟨hSo, hS⟩ := v_Sx h
  intro n
  induction n with
  | zero =>
    intro p z hp hZ hD hK k i hk hi
    rcases Nat.lt_or_ge K k with q | q
    · exact hD k i q hi
    · have : k = K := by omega
      subst this
      have := v_op32 h.1.1.1 (hS i (List.mem_of_getElem? hi)).1
      exact hK i hi (by omega)
  | succ n ih =>
    intro p z hp hZ hD hK
    unfold m_wb1
    have val : ∀ k i, K ≤ k → (x.2.2 2)[k]? = some i → (if z.1 8 26 i = 0 then (1000000 : Int32) else m_las σ z i (nI P)) = nI (T i) := fun k i hk hi => by
      rw [if_neg (v_isin h hZ (List.mem_of_getElem? hi)), v_las2 h hZ hP hP2 hT hD hk hi]
    refine ih (p + 1) _ (by omega) (fun i k hi => by rw [b_gs_ne (by omega)]; exact hZ i k hi) (fun k i hk hi => ?_) (fun i hi hip => ?_)
    · by_cases e : i = p
      · subst e
        rw [b_gs_at]
        exact val k i (by omega) hi
      · rw [b_gs_ne (by omega)]
        exact hD k i hk hi
    · by_cases e : i = p
      · subst e
        rw [b_gs_at]
        exact val K i (Nat.le_refl _) hi
      · rw [b_gs_ne (by omega)]
        exact hK i hi (by omega)
theorem v_wbr (h : v_Inv σ x) {P : Nat} {T : Nat → Nat} (hP : ∀ i ∈ x.2.2 2, v_s x i + v_ln σ i ≤ P) (hP2 : P < 800000) (hT : ∀ i ∈ x.2.2 2, v_s x i ≤ T i ∧ T i ≤ P ∧ T i = v_t1 σ x T P i) : ∀ (n K : Nat) (z : bt_X), K ≤ n → v_Zl σ x z → v_D x z T K → v_D x (m_wbr σ (nI P) n z) T 0 := by
  intro n
  induction n with
  | zero =>
    intro K z hK hZ hD
    have : K = 0 := by omega
    subst this
    exact hD
  | succ n ih =>
    intro K z hK hZ hD
    unfold m_wbr
    refine ih (K - 1) _ (by omega) (fun i k hi => by rw [m_wb1_n (by omega)]; exact hZ i k hi) ?_
    refine v_wb1 h hP hP2 hT m_32 0 z m_32_e hZ (fun k i hk hi => hD k i (by omega) hi) (fun i _ q => absurd q (Nat.not_lt_zero _))
theorem v_mback_2 {s : bt_X} : (m_back σ s).2 = s.2 := by
  have h1 : ∀ (n p : Nat) (y : bt_X), (m_wbz n p y).2 = y.2 := by
    intro n
    induction n with
    | zero => intro p y; rfl
    | succ n ih => intro p y; exact ih _ _
  have h2 : ∀ (P : Int32) (n p : Nat) (y : bt_X), (m_wb1 σ P n p y).2 = y.2 := by
    intro P n
    induction n with
    | zero => intro p y; rfl
    | succ n ih => intro p y; exact ih _ _
  have h3 : ∀ (P : Int32) (n : Nat) (y : bt_X), (m_wbr σ P n y).2 = y.2 := by
    intro P n
    induction n with
    | zero => intro y; rfl
    | succ n ih => intro y; exact (ih _).trans (h2 _ _ _ _)
  unfold m_back
  rw [h3, h1, v_wS_2]
/-- the reference's latest starts -/
theorem v_back (h : v_Inv σ x) : (∀ i ∈ x.2.2 2, (m_back σ x).1 8 30 i = (b_lat σ x).1 2 i 13 ∧ (m_back σ x).1 8 29 i = x.1 2 i 10) ∧ v_cX x (m_back σ x) := by
  obtain ⟨hSo, hS⟩ := v_Sx h
  obtain ⟨P, p1, p2, p3, p4, p5, p6⟩ := v_lat_s h
  obtain ⟨n1, n2, n3⟩ := v_now h
  have hT : ∀ i ∈ x.2.2 2, v_s x i ≤ v_tT σ x i ∧ v_tT σ x i ≤ P ∧ v_tT σ x i = v_t1 σ x (v_tT σ x) P i := fun i hi => (p4 i hi).2
  have es : m_spanOf σ x = nI P := n3.trans p2
  have hZ : v_Zl σ x (m_wbz m_32 0 (m_wS σ x)) := fun i k hi => by
    rw [m_wbz_n (by omega)]
    unfold m_wS m_wk
    rw [m_wkL_n (by omega)]
  have hD := v_wbr h p3 p1 hT m_33 32 (m_wbz m_32 0 (m_wS σ x)) (by rw [m_33_e]; omega) hZ (fun k i hk hi => by have := v_lt hi; have := hSo.2.2.2.2.1; omega)
  refine ⟨fun i hi => ?_, by rw [v_mback_2], fun _ _ => by rw [v_mback_2], fun c i k hc _ => m_back_n (by omega)⟩
  obtain ⟨k, hk⟩ := v_mem hi
  refine ⟨?_, ?_⟩
  · unfold m_back
    rw [es, hD k i (Nat.zero_le _) hk, (p4 i hi).1]
  · unfold m_back
    rw [m_wbr_n (by omega), m_wbz_n (by omega)]
    exact n2 i hi
/-- latest starts follow from what stands -/
theorem v_t1_one (h : v_Inv σ x) {P : Nat} {T T' : Nat → Nat} (h1 : ∀ i ∈ x.2.2 2, T i = v_t1 σ x T P i) (h2 : ∀ i ∈ x.2.2 2, T' i = v_t1 σ x T' P i) : ∀ i ∈ x.2.2 2, T i = T' i := by
  obtain ⟨hSo, hS⟩ := v_Sx h
  have key : ∀ d k i, k + d = (x.2.2 2).length → (x.2.2 2)[k]? = some i → T i = T' i := by
    intro d
    induction d using Nat.strongRecOn with
    | ind d ih =>
      intro k i hk hi
      have hiL := List.mem_of_getElem? hi
      obtain ⟨b1, b2⟩ := v_behind h hiL
      have hb : ∀ a, σ.2.1 2 i 7 = some a ∨ x.2.1 2 i 9 = some a → T a = T' a := fun a ha => by
        have hpa : σ.2.1 2 a 6 = some i ∨ x.2.1 2 a 8 = some i := ha.imp (fun q => (b1 a q).2.1) (fun q => (b2 a q).2.1)
        have haL : a ∈ x.2.2 2 := by
          rcases ha with q | q
          · exact (b1 a q).1
          · exact (b2 a q).1
        obtain ⟨na, hna⟩ := v_mem haL
        obtain ⟨n', r1, r2⟩ := hSo.2.2.1 na a hna i hpa
        have en : n' = k := v_nd hSo.2.2.2.1 r2 hi
        have hl := v_lt hna
        exact ih ((x.2.2 2).length - na) (by omega) na a (by omega) hna
      rw [h1 i hiL, h2 i hiL]
      unfold v_t1 v_lf
      have f1 : v_fT T P (σ.2.1 2 i 7) = v_fT T' P (σ.2.1 2 i 7) := by
        cases e : σ.2.1 2 i 7 with
        | none => rfl
        | some a => exact hb a (Or.inl e)
      have f2 : v_fB σ T P i (x.2.1 2 i 9) = v_fB σ T' P i (x.2.1 2 i 9) := by
        cases e : x.2.1 2 i 9 with
        | none => rfl
        | some b => exact congrArg (fun v => v - v_su σ (b_fn σ i) (b_fn σ b)) (hb b (Or.inr e))
      rw [f1, f2]
  intro i hi
  obtain ⟨k, hk⟩ := v_mem hi
  exact key ((x.2.2 2).length - k) k i (by have := v_lt hk; omega) hk
theorem v_lat_cX {x' : bt_X} (h : v_Inv σ x) (h' : v_Inv σ x') (hX : v_cX x x') : ∀ i ∈ x.2.2 2, (b_lat σ x').1 2 i 13 = (b_lat σ x).1 2 i 13 := by
  obtain ⟨P, p1, p2, p3, p4, -⟩ := v_lat_s h
  obtain ⟨P', r1, r2, r3, r4, -⟩ := v_lat_s h'
  have el : x'.2.2 2 = x.2.2 2 := hX.2.1 2 (by omega)
  have eP : P' = P := by
    rw [hX.2.2 4 0 5 (by omega) (by omega), p2] at r2
    exact ((nI_eq (by omega) (by omega)).mp r2).symm
  subst eP
  have et : ∀ T i, v_t1 σ x' T P' i = v_t1 σ x T P' i := fun T i => by unfold v_t1; rw [hX.1]
  have key := v_t1_one h (P := P') (T := v_tT σ x) (T' := v_tT σ x') (fun i hi => (p4 i hi).2.2.2) (fun i hi => by rw [← et]; exact (r4 i (by rw [el]; exact hi)).2.2.2)
  intro i hi
  rw [(p4 i hi).1, (r4 i (by rw [el]; exact hi)).1, key i hi]
theorem s_slk (h : v_Inv σ x) {a b : Int32} (hX : v_cX (b_slk σ x a b).2.2 w) (hr : v_rA (b_slk σ x a b).2.2 w) : v_Ok (b_slk σ x a b) z_slack (m_slk σ w a b) := by
  obtain ⟨P, p1, p2, p3, p4, p5, p6⟩ := v_lat_s h
  have hX13 : v_cX x (b_lat σ x) := ⟨by rw [p5], fun n _ => by rw [p5], fun c i k hc hk => p6 c i k (by omega)⟩
  have hr13 : v_rA x (b_lat σ x) := fun c i k hc => p6 c i k (by omega)
  unfold b_slk at hX hr ⊢
  unfold m_slk
  rcases v_po (a := a) (b := b) h with ⟨i, e1, e2, e3, e4⟩ | ⟨e1, e2⟩ | ⟨e1, e2⟩
  · rw [e1] at hX hr ⊢
    rw [e2]
    have hX2 := hX13.trans hX
    have hw := h.go hX2 (hr13.trans hr)
    have hw2 := hw.thr (v := nI 0)
    obtain ⟨k1, k2⟩ := v_back hw2
    refine ⟨hw2.mv k2 (fun i k hi => m_back_n (by omega)), by rw [m_back_n (by omega)]; exact m_thr_at, fun u hu => ?_⟩
    cases hu
    obtain ⟨q1, q2⟩ := k1 i (v_pl_ord hw2 e3 e4)
    show (m_back σ (m_thr w (nI 0))).1 8 30 i - (m_back σ (m_thr w (nI 0))).1 8 29 i = (b_lat σ x).1 2 i 13 - (b_lat σ x).1 2 i 10
    rw [q1, q2, m_thr_n (by omega), hX2.2.2 2 i 10 (by omega) (by omega), p6 2 i 10 (by omega), v_lat_cX h hw2 (hX2.trans v_cX_thr) i (v_pl_ord h e3 e4)]
  · rw [e1] at hX hr ⊢
    rw [e2]
    have hw := h.go hX hr
    exact ⟨hw.thr, m_thr_at, fun u hu => by cases hu⟩
  · rw [e1] at hX hr ⊢
    rw [e2]
    have hw := h.go hX hr
    exact ⟨hw.thr, m_thr_at, fun u hu => by cases hu⟩
end VF

