/-! ===== place ===== -/
section VY
variable {σ σ1 σ2 x y z w : bt_X}
/-- it stands in a row -/
def v_in (σ y : bt_X) (i : Nat) : Prop := ∃ m, m < b_nm σ ∧ i ∈ y.2.2 (4 + m)
theorem v_ins (hSt : b_St σ) (hO : v_O σ) (hW : v_W σ y) (hk : v_Lk σ y) {p pl m : Nat} (hop : v_op σ p) (hbm : b_m σ p = m) (hm : m < b_nm σ) (hnin : ¬ v_in σ y p) (hpl : pl ≤ (y.2.2 (4 + m)).length) (hpr : p % 4 ≠ 0 → v_in σ y (p - 1)) (hc : b_cnt y (σ.2.2 0) + 1 ≤ 32) :
    v_W σ (b_ins y m pl p) ∧ v_Lk σ (b_ins y m pl p) ∧ b_cnt (b_ins y m pl p) (σ.2.2 0) = b_cnt y (σ.2.2 0) + 1 ∧ ∀ i, v_in σ (b_ins y m pl p) i ↔ (v_in σ y i ∨ i = p) := by
  have ecnt : b_cnt (b_ins y m pl p) (σ.2.2 0) = b_cnt y (σ.2.2 0) + 1 := b_cnt_one hSt.nd ((v_mr hSt).mpr hm) (fun m' hm' => b_ins_n (by omega)) (by rw [b_ins_l, List.length_insertIdx_of_le_length hpl])
  have hin : ∀ i, v_in σ (b_ins y m pl p) i ↔ (v_in σ y i ∨ i = p) := fun i => by
    constructor
    · rintro ⟨m', hm', hi⟩
      by_cases e : m' = m
      · subst e
        rw [b_ins_l] at hi
        rcases (List.mem_insertIdx hpl).mp hi with h | h
        · exact Or.inr h
        · exact Or.inl ⟨m', hm', h⟩
      · rw [b_ins_n (by omega)] at hi
        exact Or.inl ⟨m', hm', hi⟩
    · rintro (⟨m', hm', hi⟩ | rfl)
      · refine ⟨m', hm', ?_⟩
        by_cases e : m' = m
        · subst e
          rw [b_ins_l]
          exact (List.mem_insertIdx hpl).mpr (Or.inr hi)
        · rw [b_ins_n (by omega)]; exact hi
      · exact ⟨m, hm, by rw [b_ins_l]; exact (List.mem_insertIdx hpl).mpr (Or.inl rfl)⟩
  have hnd : ((y.2.2 (4 + m)).insertIdx pl p).Nodup := (List.perm_insertIdx p _ hpl).symm.nodup (List.nodup_cons.mpr ⟨fun q => hnin ⟨m, hm, q⟩, (hW.1 m hm).1⟩)
  have hR : ∀ i ∈ (y.2.2 (4 + m)).insertIdx pl p, v_op σ i ∧ b_m σ i = m := fun i hi => by
    rcases (List.mem_insertIdx hpl).mp hi with rfl | h
    · exact ⟨hop, hbm⟩
    · exact (hW.1 m hm).2 i h
  refine ⟨?_, ?_, ecnt, hin⟩
  · rw [v_ins_nr]
    refine v_nr_W hW hm hnd hR (by rw [← v_ins_nr, ecnt]; exact hc) (fun m' hm' i hi h0 => ?_)
    rw [← v_ins_nr] at hi ⊢
    have := (hin (i - 1)).mpr (by
      rcases (hin i).mp ⟨m', hm', hi⟩ with ⟨m2, h2, h3⟩ | rfl
      · obtain ⟨m3, q1, q2⟩ := hW.2.2.1 m2 h2 i h3 h0
        exact Or.inl ⟨m3, q1, q2⟩
      · exact Or.inl (hpr h0))
    exact this
  · rw [v_ins_nr]
    exact v_nr_Lk hk hnd (fun i hi => (hR i hi).1)
/-- in the midst of placing job j: so many of its operations are in -/
def v_mid (σ x y z : bt_X) (j k : Nat) : Prop := v_W σ y ∧ v_Lk σ y ∧ v_Rd σ y z ∧ (∀ i, v_in σ y i ↔ (v_in σ x i ∨ (i / 4 = j ∧ i % 4 < k))) ∧ b_cnt y (σ.2.2 0) = b_cnt x (σ.2.2 0) + k
theorem v_mid_ins (hI : v_IS σ) (hRs : v_Rs σ) {j k pl : Nat} (hx : ∀ i, i / 4 = j → ¬ v_in σ x i) (hj : j < b_nj σ) (hk : k < b_np σ j) (hc : b_cnt x (σ.2.2 0) + b_np σ j ≤ 32) (h : v_mid σ x y z j k) (hpl : pl ≤ (y.2.2 (4 + b_m σ (4 * j + k))).length) :
    v_mid σ x (b_ins y (b_m σ (4 * j + k)) pl (4 * j + k)) (m_puts σ z (4 * j + k) pl) j (k + 1) := by
  obtain ⟨h1, h2, h3, h4, h5⟩ := h
  have hp4 := (hI.1.2.2.2.2 j hj).2
  have ed : (4 * j + k) / 4 = j := by omega
  have em : (4 * j + k) % 4 = k := by omega
  have hop : v_op σ (4 * j + k) := ⟨by omega, by rw [ed, em]; exact hk⟩
  have h32 := v_op32 hI.1 hop
  obtain ⟨⟨m, hm, hm2⟩, -⟩ := hI.2.1 _ hop
  have ebm : b_m σ (4 * j + k) = m := by unfold b_m; rw [hm]; rfl
  rw [ebm] at hpl ⊢
  have hnin : ¬ v_in σ y (4 * j + k) := fun q => by
    rcases (h4 _).mp q with q | q
    · exact hx _ ed q
    · omega
  obtain ⟨g1, g2, g3, g4⟩ := v_ins hI.1 hI.2.1 h1 h2 hop ebm hm2 hnin hpl (fun q => (h4 _).mpr (Or.inr ⟨by omega, by omega⟩)) (by omega)
  have hlen : (y.2.2 (4 + m)).length < 32 := by
    have := b_cnt_mem (x := y) (m := m) (L := σ.2.2 0) ((v_mr hI.1).mpr hm2)
    omega
  refine ⟨g1, g2, ?_, fun i => ?_, by omega⟩
  · have emc := (hRs.2.2.2.1 _ hop).1
    refine v_Rd_puts hI.1 h3 h32 emc (by rw [ebm]; exact hm2) (by rw [ebm]; exact hpl) (by rw [ebm]; exact hlen) (by rw [ebm]; exact b_ins_l) (fun m' hm' => b_ins_n (by rw [ebm] at hm'; omega))
  · rw [g4, h4]
    constructor
    · rintro ((q | q) | q)
      · exact Or.inl q
      · exact Or.inr ⟨q.1, by omega⟩
      · exact Or.inr ⟨by omega, by omega⟩
    · rintro (q | q)
      · exact Or.inl (Or.inl q)
      · by_cases e : i = 4 * j + k
        · exact Or.inr e
        · exact Or.inl (Or.inr ⟨q.1, by omega⟩)
/-- behind all others: no way round comes of it -/
theorem v_To_end (hO : v_O σ) {p m : Nat} (hW : v_W σ y) (hW2 : v_W σ (b_ins y m (y.2.2 (4 + m)).length p)) (hm : m < b_nm σ) (hop : v_op σ p) (hpr : p % 4 ≠ 0 → v_in σ y (p - 1)) {L : List Nat} (hT : v_To σ y L) : v_To σ (b_ins y m (y.2.2 (4 + m)).length p) (L ++ [p]) := by
  obtain ⟨t1, t2, t3⟩ := hT
  have er : (b_ins y m (y.2.2 (4 + m)).length p).2.2 (4 + m) = y.2.2 (4 + m) ++ [p] := by rw [b_ins_l, List.insertIdx_length_self]
  have eo : ∀ m', m' ≠ m → (b_ins y m (y.2.2 (4 + m)).length p).2.2 (4 + m') = y.2.2 (4 + m') := fun m' h => b_ins_n (by omega)
  refine ⟨fun m' hm' i hi => ?_, fun i hi => ?_, fun n i hn a ha => ?_⟩
  · by_cases e : m' = m
    · subst e
      rw [er] at hi
      rcases List.mem_append.mp hi with q | q
      · exact List.mem_append.mpr (Or.inl (t1 m' hm' i q))
      · exact List.mem_append.mpr (Or.inr q)
    · rw [eo m' e] at hi
      exact List.mem_append.mpr (Or.inl (t1 m' hm' i hi))
  · rcases List.mem_append.mp hi with q | q
    · obtain ⟨m', q1, q2⟩ := t2 i q
      refine ⟨m', q1, ?_⟩
      by_cases e : m' = m
      · subst e; rw [er]; exact List.mem_append.mpr (Or.inl q2)
      · rw [eo m' e]; exact q2
    · rw [List.mem_singleton] at q
      subst q
      exact ⟨m, hm, by rw [er]; exact List.mem_append.mpr (Or.inr List.mem_cons_self)⟩
  · have inL : ∀ a, a ∈ L → n = L.length → ∃ n' : Nat, n' < n ∧ (L ++ [p])[n']? = some a := fun a ha hn => by
      obtain ⟨n', q⟩ := v_mem ha
      have := v_lt q
      exact ⟨n', by omega, by rw [List.getElem?_append_left (by omega)]; exact q⟩
    rcases Nat.lt_or_ge n L.length with c | c
    · rw [List.getElem?_append_left c] at hn
      have hi := List.mem_of_getElem? hn
      have hold : σ.2.1 2 i 6 = some a ∨ y.2.1 2 i 8 = some a := by
        rcases ha with ha | ha
        · exact Or.inl ha
        · refine Or.inr ?_
          obtain ⟨m', q1, q2⟩ := t2 i hi
          obtain ⟨k, hk⟩ := v_mem q2
          have hkl := v_lt hk
          rw [(hW.2.1 m' q1 k i hk).1]
          by_cases e : m' = m
          · subst e
            rw [(hW2.2.1 m' q1 k i (by rw [er, List.getElem?_append_left hkl]; exact hk)).1, er] at ha
            by_cases e0 : k = 0
            · rw [if_pos e0] at ha; cases ha
            · rw [if_neg e0, List.getElem?_append_left (by omega)] at ha
              rw [if_neg e0]; exact ha
          · rw [(hW2.2.1 m' q1 k i (by rw [eo m' e]; exact hk)).1, eo m' e] at ha
            exact ha
      obtain ⟨n', q1, q2⟩ := t3 n i hn a hold
      exact ⟨n', q1, by rw [List.getElem?_append_left (by omega)]; exact q2⟩
    · rw [List.getElem?_append_right c] at hn
      have e0 : n - L.length = 0 := by
        have := v_lt hn
        simp at this
        omega
      rw [e0] at hn
      cases hn
      refine inL a ?_ (by omega)
      rcases ha with ha | ha
      · rw [(hO p hop).2.2.2.1] at ha
        split at ha
        · cases ha
        · rename_i c0
          cases ha
          obtain ⟨m', q1, q2⟩ := hpr c0
          exact t1 m' q1 _ q2
      · rw [(hW2.2.1 m hm (y.2.2 (4 + m)).length p (by rw [er, List.getElem?_append_right (Nat.le_refl _), Nat.sub_self]; rfl)).1, er] at ha
        by_cases e1 : (y.2.2 (4 + m)).length = 0
        · rw [if_pos e1] at ha; cases ha
        · rw [if_neg e1, List.getElem?_append_left (by omega)] at ha
          exact t1 m hm a (List.mem_of_getElem? ha)
theorem v_place (hI : v_IS σ) (hRs : v_Rs σ) {j : Nat} (hx : ∀ i, i / 4 = j → ¬ v_in σ x i) (hj : j < b_nj σ) (hc : b_cnt x (σ.2.2 0) + b_np σ j ≤ 32) : ∀ (n k : Nat) (y z : bt_X), k + n = b_np σ j → v_mid σ x y z j k → (∃ L, v_To σ y L) →
    v_mid σ x (b_place σ y (List.range' (4 * j + k) n)) (m_plc σ j n k z) j (b_np σ j) ∧ ∃ L, v_To σ (b_place σ y (List.range' (4 * j + k) n)) L := by
  intro n
  induction n with
  | zero =>
    intro k y z hk h hT
    have : k = b_np σ j := by omega
    subst this
    exact ⟨h, hT⟩
  | succ n ih =>
    intro k y z hk h hT
    have hp4 := (hI.1.2.2.2.2 j hj).2
    have ed : (4 * j + k) / 4 = j := by omega
    have em : (4 * j + k) % 4 = k := by omega
    have hop : v_op σ (4 * j + k) := ⟨by omega, by rw [ed, em]; omega⟩
    obtain ⟨⟨m, hm, hm2⟩, -⟩ := hI.2.1 _ hop
    have ebm : b_m σ (4 * j + k) = m := by unfold b_m; rw [hm]; rfl
    have emc := (hRs.2.2.2.1 _ hop).1
    have hm4 : m < 4 := by have := hI.1.2.1; omega
    have ern : m_rn z (m_mc σ (4 * j + k)) = (y.2.2 (4 + b_m σ (4 * j + k))).length := by
      rw [emc, ebm, h.2.2.1.2.1 m hm4, if_pos hm2]
    have hmid := v_mid_ins hI hRs hx hj (show k < b_np σ j by omega) hc h (pl := (y.2.2 (4 + b_m σ (4 * j + k))).length) (Nat.le_refl _)
    rw [List.range'_succ]
    unfold b_place m_plc
    rw [ern, show 4 * j + k + 1 = 4 * j + (k + 1) by omega]
    refine ih (k + 1) _ _ (by omega) hmid ?_
    obtain ⟨L, hL⟩ := hT
    refine ⟨L ++ [4 * j + k], ?_⟩
    have h1 := hmid.1
    rw [ebm] at h1 ⊢
    exact v_To_end hI.2.1 h.1 h1 hm2 hop (fun q => (h.2.2.2.1 _).mpr (Or.inr ⟨by omega, by omega⟩)) hL
/-- how many can be placed -/
theorem v_cap (h : v_Inv σ x) {j : Nat} (hj : j < b_nj σ) (hp : σ.1 0 j 3 = nI 0) : b_cnt x (σ.2.2 0) + b_np σ j ≤ 32 := by
  obtain ⟨hSo, hS⟩ := v_Sx h
  have hp4 := (h.1.1.1.2.2.2.2 j hj).2
  have hc : b_cnt x (σ.2.2 0) ≤ (x.2.2 2).length := by
    rw [← v_fl_len]
    have key : ∀ L : List Nat, L.Nodup → (∀ m ∈ L, m < b_nm σ) → (v_fl x L).Nodup ∧ ∀ a ∈ v_fl x L, ∃ m ∈ L, a ∈ x.2.2 (4 + m) := by
      intro L
      induction L with
      | nil => intro _ _; exact ⟨List.nodup_nil, fun a ha => absurd ha List.not_mem_nil⟩
      | cons b L ih =>
        intro hn hL
        rw [List.nodup_cons] at hn
        obtain ⟨g1, g2⟩ := ih hn.2 (fun m hm => hL m (List.mem_cons_of_mem _ hm))
        have hb := hL b List.mem_cons_self
        unfold v_fl
        refine ⟨List.nodup_append.mpr ⟨(h.1.2.1.1 b hb).1, g1, fun u hu v hv q => ?_⟩, fun a ha => ?_⟩
        · subst q
          obtain ⟨m, q1, q2⟩ := g2 u hv
          have e1 := ((h.1.2.1.1 b hb).2 u hu).2
          have e2 := ((h.1.2.1.1 m (hL m (List.mem_cons_of_mem _ q1))).2 u q2).2
          exact hn.1 (by rw [← e1, e2]; exact q1)
        · rcases List.mem_append.mp ha with q | q
          · exact ⟨b, List.mem_cons_self, q⟩
          · obtain ⟨m, q1, q2⟩ := g2 a q
            exact ⟨m, List.mem_cons_of_mem _ q1, q2⟩
    obtain ⟨g1, g2⟩ := key (σ.2.2 0) h.1.1.1.nd (fun m hm => (v_mr h.1.1.1).mp hm)
    exact v_sub _ _ g1 (fun a ha => by
      obtain ⟨m, q1, q2⟩ := g2 a ha
      exact hSo.1 m ((v_mr h.1.1.1).mp q1) a q2)
  have hs := v_sub (x.2.2 2 ++ List.range' (4 * j) (b_np σ j)) (List.range 32) (List.nodup_append.mpr ⟨hSo.2.2.2.1, List.nodup_range', fun a ha b hb q => by
    subst q
    rw [List.mem_range'_1] at hb
    obtain ⟨m, hm, hi⟩ := hSo.2.1 a ha
    have := (h.1.2.2.2.1 a (hS a ha).1).mp ⟨m, hm, hi⟩
    rw [show a / 4 = j by omega, hp] at this
    exact absurd this (by decide)⟩) (fun a ha => by
    rw [List.mem_range]
    rcases List.mem_append.mp ha with q | q
    · exact v_op32 h.1.1.1 (hS a q).1
    · rw [List.mem_range'_1] at q
      have := h.1.1.1.2.2.2.1
      omega)
  rw [List.length_append, List.length_range', List.length_range] at hs
  omega
theorem v_tot (hSt : b_St σ) (hR : v_Rd σ y z) : m_tot z = b_cnt y (σ.2.2 0) := by
  obtain ⟨-, h2, -⟩ := hR
  unfold m_tot
  rw [h2 0 (by decide), h2 1 (by decide), h2 2 (by decide), h2 3 (by decide), hSt.1]
  have hb := hSt.2.1
  rcases (show b_nm σ = 0 ∨ b_nm σ = 1 ∨ b_nm σ = 2 ∨ b_nm σ = 3 ∨ b_nm σ = 4 by omega) with e | e | e | e | e <;> rw [e] <;> simp [b_cnt, List.range, List.range.loop] <;> omega
theorem v_wjn (h : v_Inv σ x) {a : Int32} : (∃ j, b_wj σ a = .inl j ∧ b_ix (b_nj σ) a = some j ∧ m_bars σ a = 0 ∧ j < b_nj σ ∧ σ.1 0 j 3 = nI 0 ∧ b_np σ j ≠ 0 ∧ m_np σ j = b_np σ j) ∨ (b_wj σ a = .inr b_IO ∧ m_bars σ a = 1) ∨ (b_wj σ a = .inr b_IS ∧ m_bars σ a = 2) := by
  have hj8 : b_nj σ ≤ 8 := h.1.1.1.2.2.2.1
  unfold b_wj
  cases e : b_ix (b_nj σ) a with
  | none => exact Or.inr (Or.inl ⟨rfl, m_bars_n (by rw [v_nj h]; exact e)⟩)
  | some j =>
    obtain ⟨-, hj⟩ := v_ixe (by omega) e
    have enp := h.2.2.1.2.2.1 j (by omega)
    rw [if_pos hj] at enp
    have e20 := (h.2.2.1.2.2.2.2.2.2 j hj).2
    have eb := m_bars_s (σ := σ) (a := a) (j := j) (by rw [v_nj h]; exact e)
    rw [e20, enp] at eb
    simp only []
    by_cases c : σ.1 0 j 3 = 0
    · rw [if_pos c]
      rw [if_pos c] at eb
      by_cases d : b_np σ j = 0
      · rw [if_pos d]; rw [if_pos d] at eb; exact Or.inr (Or.inr ⟨rfl, eb⟩)
      · rw [if_neg d]; rw [if_neg d] at eb; exact Or.inl ⟨j, rfl, rfl, eb, hj, c, d, enp⟩
    · rw [if_neg c]; rw [if_neg c] at eb; exact Or.inr (Or.inr ⟨rfl, eb⟩)
/-- a job is told to be placed, or not to be -/
theorem v_IS.job (h : v_IS σ) {j : Nat} {v : Int32} (hv : v = nI 0 ∨ (v = nI 1 ∧ b_np σ j ≠ 0)) : v_IS (bt_gs σ 0 j 3 v) := by
  obtain ⟨h1, h2, h3, h4, h5, h6⟩ := h
  have en : ∀ c i k, ¬ (c = 0 ∧ i = j ∧ k = 3) → (bt_gs σ 0 j 3 v).1 c i k = σ.1 c i k := fun c i k hc => b_gs_ne hc
  have efn : ∀ i, b_fn (bt_gs σ 0 j 3 v) i = b_fn σ i := fun i => by unfold b_fn; rw [en 2 i 4 (by omega)]
  refine ⟨h1, fun i hi => ?_, fun m hm => ?_, fun f g hf hg => ?_, fun j' hj' => ?_, fun m hm => ?_⟩
  · have q := h2 i hi
    rw [efn, en 2 i 4 (by omega), en 2 i 1 (by omega), en 2 i 3 (by omega), en 2 i 5 (by omega)]
    exact q
  · rw [en 1 m 3 (by omega), en 1 m 4 (by omega), en 1 m 5 (by omega)]
    exact h3 m hm
  · rw [en 8 _ g (by omega)]; exact h4 f g hf hg
  · obtain ⟨q1, q2, q3⟩ := h5 j' hj'
    rw [en 0 j' 0 (by omega), en 0 j' 1 (by omega)]
    refine ⟨q1, q2, ?_⟩
    by_cases e : j' = j
    · subst e; rw [b_gs_at]; exact hv
    · rw [en 0 j' 3 (by omega)]; exact q3
  · obtain ⟨c, t, q1, q2, q3, q4, q5, q6, q7⟩ := h6 m hm
    refine ⟨c, t, by rw [en 1 m 1 (by omega)]; exact q1, q2, q3, by rw [en 1 m 2 (by omega)]; exact q4, q5, fun i hi hm2 => ?_, q7.imp id (fun q => ?_)⟩
    · rw [en 2 i 5 (by omega)]; exact q6 i hi hm2
    · obtain ⟨i, r1, r2, r3⟩ := q
      exact ⟨i, r1, r2, by rw [en 2 i 5 (by omega)]; exact r3⟩
/-- a job has come or gone: what holds between calls, behind the finding of times -/
theorem v_moved (h : v_Inv σ x) {j : Nat} {v : Int32} (hj : j < b_nj σ) (hv : v = nI 0 ∨ (v = nI 1 ∧ b_np σ j ≠ 0)) {y x2 : bt_X} (hW : v_W σ y) (hk : v_Lk σ y) (hT : ∃ r, v_Rk σ y r)
    (hin : ∀ i, v_op σ i → (v_in σ y i ↔ if i / 4 = j then v = nI 1 else v_in σ x i)) (hX : v_cX (b_all (bt_gs σ 0 j 3 v) y).2 w) (hcX : v_cX w x2) (hRd : v_Rd σ y x2) :
    v_Inv (bt_gs (bt_gs σ 0 j 3 v) 8 20 j v) x2 := by
  have hI : v_IS (bt_gs σ 0 j 3 v) := h.1.1.job hv
  have hPl : v_Pl (bt_gs σ 0 j 3 v) y := fun i hi => by
    have g := hin i hi
    rw [show (∃ m, m < b_nm (bt_gs σ 0 j 3 v) ∧ i ∈ y.2.2 (4 + m)) ↔ v_in σ y i from Iff.rfl, g]
    by_cases e : i / 4 = j
    · rw [if_pos e, e, b_gs_at]
    · rw [if_neg e, b_gs_ne (by omega)]
      exact h.1.2.2.2.1 i hi
  obtain ⟨g1, g2⟩ := v_after (σ := bt_gs σ 0 j 3 v) hI hW hk hPl hT
  have hcA : v_cA (bt_gs σ 0 j 3 v) (bt_gs (bt_gs σ 0 j 3 v) 8 20 j v) := ⟨rfl, fun c i k hc => b_gs_ne (by omega)⟩
  have en : ∀ c i k, ¬ (c = 0 ∧ i = j ∧ k = 3) → ¬ (c = 8 ∧ i = 20 ∧ k = j) → (bt_gs (bt_gs σ 0 j 3 v) 8 20 j v).1 c i k = σ.1 c i k := fun c i k h1 h2 => by rw [b_gs_ne h2, b_gs_ne h1]
  obtain ⟨hR, hRs⟩ := v_RR (σ2 := bt_gs (bt_gs σ 0 j 3 v) 8 20 j v) h rfl (fun c i k hc => en c i k (by omega) (by omega)) (fun m' hm' => by
    rw [en 8 12 m' (by omega) (by omega), en 1 m' 1 (by omega) (by omega), en 1 m' 3 (by omega) (by omega), en 1 m' 4 (by omega) (by omega), en 1 m' 5 (by omega) (by omega), en 8 13 m' (by omega) (by omega), en 8 14 m' (by omega) (by omega)]
    exact h.2.2.1.2.2.2.2.1 m' hm') (fun f' g' hf hg => by
    rw [en 8 25 _ (by omega) (by omega), en 8 _ g' (by omega) (by omega)]
    exact h.2.2.1.2.2.2.2.2.1 f' g' hf hg) (fun m' r1 r2 => by
    rw [en 8 13 m' (by omega) (by omega), en 8 14 m' (by omega) (by omega)]
    exact h.2.1.2.2.2.1 m' r1 r2) (fun j' hj' => by
    obtain ⟨q1, q2⟩ := h.2.2.1.2.2.2.2.2.2 j' hj'
    rw [en 8 18 j' (by omega) (by omega), en 0 j' 1 (by omega) (by omega)]
    refine ⟨q1, ?_⟩
    by_cases e : j' = j
    · subst e; rw [b_gs_at, b_gs_ne (by omega), b_gs_at]
    · rw [en 8 20 j' (by omega) (by omega), en 0 j' 3 (by omega) (by omega)]; exact q2) (fun j' r1 r2 => by
    rw [en 8 20 j' (by omega) (by omega)]
    exact h.2.1.2.2.2.2 j' r1 r2)
  refine ⟨g1.congr hcA (hX.trans hcX), hR, hRs, ?_⟩
  have er : ∀ m, x2.2.2 (4 + m) = y.2.2 (4 + m) := fun m => by
    rw [hcX.2.1 _ (by omega), hX.2.1 _ (by omega), v_all_rows hI hW _ (by omega)]
  exact hRd.ext (fun m _ => er m) (fun _ _ _ => rfl)
end VY

