/-! ===== add an operation: what holds between calls ===== -/
section VAO
variable {σ σ2 x x2 w : bt_X}
theorem v_addO {j m n l F T : Nat} (h : v_Inv σ x) (hj : j < b_nj σ) (hm : m < b_nm σ) (hn : n = b_np σ j) (hn4 : n < 4) (hpl : σ.1 0 j 3 = nI 0) (hl : 1 ≤ l ∧ l ≤ 200) (hF : F < 4) (hT : T < 256) (hc : ∀ c, σ.1 1 m 1 = nI c → c ≤ 8 → v_pc T ≤ c)
    (l8 : σ2.2.2 (8 + j) = σ.2.2 (8 + j) ++ [4 * j + n]) (ll : ∀ k, k ≠ 8 + j → σ2.2.2 k = σ.2.2 k)
    (sr : ∀ i k, i ≠ 4 * j + n → ¬ (n ≠ 0 ∧ i = 4 * j + n - 1 ∧ k = 7) → σ2.2.1 2 i k = σ.2.1 2 i k)
    (ro : σ2.2.1 2 (4 * j + n) 2 = some m ∧ σ2.2.1 2 (4 * j + n) 6 = (if n = 0 then none else some (4 * j + n - 1)) ∧ σ2.2.1 2 (4 * j + n) 7 = none) (r7 : n ≠ 0 → σ2.2.1 2 (4 * j + n - 1) 7 = some (4 * j + n))
    (sn : ∀ c i k, ¬ (c = 2 ∧ i = 4 * j + n) → ¬ (c = 1 ∧ i = m ∧ k = 2) → ¬ (c = 8 ∧ ((21 ≤ i ∧ i ≤ 24 ∧ k = 4 * j + n) ∨ (i = 19 ∧ k = j))) → σ2.1 c i k = σ.1 c i k)
    (no : σ2.1 2 (4 * j + n) 1 = nI n ∧ σ2.1 2 (4 * j + n) 3 = nI l ∧ σ2.1 2 (4 * j + n) 4 = nI F ∧ σ2.1 2 (4 * j + n) 5 = nI T)
    (n8 : σ2.1 8 21 (4 * j + n) = nI m ∧ σ2.1 8 22 (4 * j + n) = nI l ∧ σ2.1 8 23 (4 * j + n) = nI F ∧ σ2.1 8 24 (4 * j + n) = nI T ∧ σ2.1 8 19 j = nI (n + 1))
    (n12 : σ2.1 1 m 2 = b_max (σ.1 1 m 2) (nI (v_pc T)))
    (xr : ∀ i k, i ≠ 4 * j + n → x2.2.1 2 i k = x.2.1 2 i k) (xro : ∀ k, x2.2.1 2 (4 * j + n) k = none) (xl : ∀ n, n ≠ 3 → x2.2.2 n = x.2.2 n)
    (xn : ∀ c i k, c < 6 → ¬ (c = 2 ∧ (k = 12 ∨ k = 13)) → ¬ (c = 2 ∧ i = 4 * j + n) → x2.1 c i k = x.1 c i k) (x8 : ∀ i k, i = 15 ∨ i = 16 → x2.1 8 i k = x.1 8 i k) : v_Inv σ2 x2 := by
  obtain ⟨⟨⟨a1, a2, a3, a4, a5, a6⟩, b1, b2, b3, b4, b5⟩, ⟨⟨c1, c2, c3⟩, c4, c5, c6, c7⟩, ⟨d1, d2, d3, d4, d5, d6, d7⟩, ⟨e1, e2, e3⟩⟩ := h
  obtain ⟨w1, w2, w3, w4⟩ := b1
  obtain ⟨q1, q2, q3, q4, q5, q6, q7⟩ := b4
  have hnm4 := a1.2.1
  have hnj8 := a1.2.2.2.1
  obtain ⟨o, ho⟩ : ∃ o, o = 4 * j + n := ⟨_, rfl⟩
  rw [← ho] at l8 sr ro r7 sn no n8 xr xro xn
  have od : o / 4 = j := by omega
  have om : o % 4 = n := by omega
  have enm : b_nm σ2 = b_nm σ := by unfold b_nm; rw [ll _ (by omega)]
  have enj : b_nj σ2 = b_nj σ := by unfold b_nj; rw [ll _ (by omega)]
  have enp : ∀ j', j' ≠ j → b_np σ2 j' = b_np σ j' := fun j' hj => by unfold b_np; rw [ll _ (by omega)]
  have enp0 : b_np σ2 j = n + 1 := by
    unfold b_np
    rw [l8, List.length_append, hn]
    rfl
  have hno : ¬ v_op σ o := fun q => by
    have := q.2
    rw [od, om] at this
    omega
  have eop : ∀ i, v_op σ2 i ↔ (v_op σ i ∨ i = o) := fun i => by
    unfold v_op
    rw [enj]
    constructor
    · rintro ⟨g1, g2⟩
      by_cases e : i / 4 = j
      · rw [e, enp0] at g2
        by_cases e2 : i % 4 = n
        · exact Or.inr (by omega)
        · exact Or.inl ⟨g1, by rw [e]; omega⟩
      · rw [enp _ e] at g2; exact Or.inl ⟨g1, g2⟩
    · rintro (⟨g1, g2⟩ | rfl)
      · refine ⟨g1, ?_⟩
        by_cases e : i / 4 = j
        · rw [e] at g2 ⊢; omega
        · rw [enp _ e]; exact g2
      · rw [od, om, enp0]; exact ⟨hj, by omega⟩
  have hne : ∀ i, v_op σ i → i ≠ o := fun i hi e => hno (by rw [← e]; exact hi)
  have s2 : ∀ i k, i ≠ o → σ2.1 2 i k = σ.1 2 i k := fun i k hi => sn 2 i k (fun q => hi q.2) (by omega) (by omega)
  have efn : ∀ i, i ≠ o → b_fn σ2 i = b_fn σ i := fun i hi => by unfold b_fn; rw [s2 i 4 hi]
  have efo : b_fn σ2 o = F := by
    unfold b_fn
    rw [no.2.2.1, nI_toInt (by omega)]
    rfl
  have ebm : ∀ i, i ≠ o → b_m σ2 i = b_m σ i := fun i hi => by unfold b_m; rw [sr i 2 hi (by omega)]
  have ebo : b_m σ2 o = m := by unfold b_m; rw [ro.1]; rfl
  have s1 : ∀ m' k, k ≠ 2 → σ2.1 1 m' k = σ.1 1 m' k := fun m' k hk => sn 1 m' k (by omega) (by omega) (by omega)
  have s0 : ∀ j' k, σ2.1 0 j' k = σ.1 0 j' k := fun j' k => sn 0 j' k (by omega) (by omega) (by omega)
  have er : ∀ m, x2.2.2 (4 + m) = x.2.2 (4 + m) := fun m => xl _ (by omega)
  have er2 : x2.2.2 2 = x.2.2 2 := xl 2 (by omega)
  have hTn : nN (nI T) = T := nI_clamp (by omega)
  refine ⟨⟨⟨⟨?_, by omega, ?_, by omega, fun j' hj' => ?_⟩, fun i hi => ?_, fun m' hm' => ?_, fun f g hf hg => ?_, fun j' hj' => ?_, fun m' hm' => ?_⟩, ⟨fun m' hm' => ?_, fun m' hm' k i hi => ?_, fun m' hm' i hi h0 => ?_, ?_⟩, fun i hi => ?_, fun i hi => ?_, ⟨fun m' hm' => ?_, fun j' hj' => ?_, by rw [er2]; exact q3, fun i hi => ?_, fun n' i hn' a ha => ?_, fun i hi => ?_, ?_⟩, fun m' hm' i hi => ?_⟩, ⟨⟨?_, ?_, fun j' hj' => ?_⟩, fun p hp => ?_, fun p hp => ?_, fun m' r1 r2 => ?_, fun j' r1 r2 => ?_⟩, ⟨?_, ?_, fun j' hj' => ?_, fun i hi => ?_, fun m' hm' => ?_, fun f g hf hg => ?_, fun j' hj' => ?_⟩, ⟨fun m' hm' => ?_, fun m' hm' => ?_, fun m' hm' k i hi => ?_⟩⟩
  · rw [ll _ (by omega), enm]; exact a1.1
  · rw [ll _ (by omega), enj]; exact a1.2.2.1
  · rw [enj] at hj'
    by_cases e : j' = j
    · subst e
      rw [l8, enp0, (a1.2.2.2.2 j' hj').1, ← hn, ho]
      refine ⟨?_, by omega⟩
      rw [List.range'_concat]
      simp
    · rw [ll _ (by omega), enp _ e]; exact a1.2.2.2.2 j' hj'
  · rcases (eop i).mp hi with hi | rfl
    · have hi2 := hne i hi
      obtain ⟨g1, g2, g3, g4, g5, g6, g7⟩ := a2 i hi
      rw [enm, efn i hi2, s2 i _ hi2, s2 i _ hi2, s2 i _ hi2, s2 i _ hi2, sr i 2 hi2 (by omega), sr i 6 hi2 (by omega)]
      refine ⟨g1, g2, g3, g4, ?_, g6, g7⟩
      by_cases e : i / 4 = j
      · rw [e, enp0]
        have hin := hi.2
        rw [e] at hin g5
        by_cases e2 : i + 1 = o
        · rw [if_pos (by omega), show i = o - 1 by omega, r7 (by omega)]
          congr 1
          omega
        · rw [sr i 7 hi2 (by omega), g5, if_pos (by omega), if_pos (by omega)]
      · rw [enp _ e, sr i 7 hi2 (by omega)]; exact g5
    · refine ⟨⟨m, ro.1, by omega⟩, ⟨by rw [efo]; exact no.2.2.1, by rw [efo]; exact hF⟩, by rw [om]; exact no.1, by rw [om]; exact ro.2.1, ?_, ⟨l, no.2.1, hl⟩, by rw [no.2.2.2]; exact m_wi hT (by omega)⟩
      rw [od, om, enp0, if_neg (by omega)]
      exact ro.2.2
  · rw [enm] at hm'
    rw [s1 _ _ (by omega), s1 _ _ (by omega), s1 _ _ (by omega)]; exact a3 m' hm'
  · rw [sn 8 _ g (by omega) (by omega) (by omega)]; exact a4 f g hf hg
  · rw [enj] at hj'
    rw [s0, s0, s0]
    by_cases e : j' = j
    · subst e
      exact ⟨(a5 j' hj').1, (a5 j' hj').2.1, Or.inl hpl⟩
    · rw [enp _ e]; exact a5 j' hj'
  · rw [enm] at hm'
    obtain ⟨c, t, g1, g2, g3, g4, g5, g6, g7⟩ := a6 m' hm'
    by_cases e : m' = m
    · subst e
      have hpc := hc c g1 g3
      have emx : σ2.1 1 m' 2 = nI (max t (v_pc T)) := by
        rw [n12, g4]
        unfold b_max
        by_cases u : t < v_pc T
        · rw [if_pos ((nI_ltI (by omega) (by omega)).mpr u), Nat.max_eq_right (by omega)]
        · rw [if_neg (fun q => u ((nI_ltI (by omega) (by omega)).mp q)), Nat.max_eq_left (by omega)]
      refine ⟨c, max t (v_pc T), by rw [s1 _ _ (by omega)]; exact g1, g2, g3, emx, by omega, fun i hi he => ?_, ?_⟩
      · rcases (eop i).mp hi with hi | rfl
        · rw [s2 i _ (hne i hi)]
          have := g6 i hi (by rw [← ebm i (hne i hi)]; exact he)
          omega
        · rw [no.2.2.2, hTn]; omega
      · by_cases u : t < v_pc T
        · exact Or.inr ⟨o, (eop o).mpr (Or.inr rfl), ebo, by rw [no.2.2.2, hTn]; omega⟩
        · rcases g7 with g7 | ⟨i, u1, u2, u3⟩
          · exact Or.inl (by omega)
          · exact Or.inr ⟨i, (eop i).mpr (Or.inl u1), by rw [ebm i (hne i u1)]; exact u2, by rw [s2 i _ (hne i u1)]; omega⟩
    · refine ⟨c, t, by rw [s1 _ _ (by omega)]; exact g1, g2, g3, by rw [sn 1 m' 2 (by omega) (by omega) (by omega)]; exact g4, g5, fun i hi he => ?_, g7.imp id (fun q => ?_)⟩
      · rcases (eop i).mp hi with hi | rfl
        · rw [s2 i _ (hne i hi)]; exact g6 i hi (by rw [← ebm i (hne i hi)]; exact he)
        · exact absurd (ebo.symm.trans he).symm e
      · obtain ⟨i, u1, u2, u3⟩ := q
        exact ⟨i, (eop i).mpr (Or.inl u1), by rw [ebm i (hne i u1)]; exact u2, by rw [s2 i _ (hne i u1)]; exact u3⟩
  · rw [enm] at hm'
    rw [er m']
    exact ⟨(w1 m' hm').1, fun i hi => by
      have := (w1 m' hm').2 i hi
      exact ⟨(eop i).mpr (Or.inl this.1), by rw [ebm i (hne i this.1)]; exact this.2⟩⟩
  · rw [enm] at hm'
    rw [er m'] at hi ⊢
    have hop := ((w1 m' hm').2 i (List.mem_of_getElem? hi)).1
    rw [xr i _ (hne i hop), xr i _ (hne i hop)]; exact w2 m' hm' k i hi
  · rw [enm] at hm'
    rw [er m'] at hi
    obtain ⟨m3, g1, g2⟩ := w3 m' hm' i hi h0
    exact ⟨m3, by omega, by rw [er]; exact g2⟩
  · rw [ll _ (by omega), b_cnt_ext (x := x) (fun m hm => by rw [er m])]
    exact w4
  · rcases (eop i).mp hi with hi | rfl
    · rw [xr i _ (hne i hi), xr i _ (hne i hi)]
      obtain ⟨g1, g2⟩ := b2 i hi
      exact ⟨fun a ha => (eop a).mpr (Or.inl (g1 a ha)), fun a ha => (eop a).mpr (Or.inl (g2 a ha))⟩
    · rw [xro, xro]
      exact ⟨(fun a ha => by cases ha), (fun a ha => by cases ha)⟩
  · rw [s0 _ 3, enm]
    simp only [er]
    rcases (eop i).mp hi with hi | rfl
    · exact b3 i hi
    · rw [od, hpl]
      constructor
      · rintro ⟨m3, g1, g2⟩
        exact absurd ((w1 m3 g1).2 _ g2).1 hno
      · intro q
        exact absurd q (by decide)
  · rw [enm] at hm'
    rw [er m', er2, xn 1 m' 6 (by omega) (by omega) (by omega)]
    exact q1 m' hm'
  · rw [enj] at hj'
    rw [xn 0 j' 4 (by omega) (by omega) (by omega), er2]
    exact q2 j' hj'
  · rw [er2] at hi
    obtain ⟨m3, g1, g2⟩ := q4 i hi
    exact ⟨m3, by omega, by rw [er]; exact g2⟩
  · rw [er2] at hn' ⊢
    obtain ⟨m3, g1, g2⟩ := q4 i (List.mem_of_getElem? hn')
    have hi2 := hne i ((w1 m3 g1).2 i g2).1
    rw [sr i 6 hi2 (by omega), xr i _ hi2] at ha
    exact q5 n' i hn' a ha
  · rw [er2] at hi
    obtain ⟨m3, hm3, him⟩ := q4 i hi
    obtain ⟨k, hk⟩ := v_mem him
    obtain ⟨n3, hn3⟩ := v_mem hi
    have hop := ((w1 m3 hm3).2 i him).1
    have hi2 := hne i hop
    obtain ⟨g1, g2⟩ := q6 i hi
    have erd : b_rdy σ2 x2 i = b_rdy σ x i := by
      unfold b_rdy
      rw [xr i _ hi2, sr i 6 hi2 (by omega)]
      have e1 : b_free x2 (x.2.1 2 i 8) = b_free x (x.2.1 2 i 8) := by
        cases e : x.2.1 2 i 8 with
        | none => rfl
        | some a => exact xn 2 a 11 (by omega) (by omega) (fun z => hne a ((b2 i hop).1 a e) z.2)
      have e3 : ((σ.2.1 2 i 6).map fun a => x2.1 2 a 11) = ((σ.2.1 2 i 6).map fun a => x.1 2 a 11) := by
        cases e : σ.2.1 2 i 6 with
        | none => rfl
        | some a =>
          refine congrArg some (xn 2 a 11 (by omega) (by omega) (fun z => ?_))
          obtain ⟨n4, -, u⟩ := q5 n3 i hn3 a (Or.inl e)
          obtain ⟨m4, u1, u2⟩ := q4 a (List.mem_of_getElem? u)
          exact hne a ((w1 m4 u1).2 a u2).1 z.2
      have e4 : b_bet σ2 (x.2.1 2 i 8) i = b_bet σ (x.2.1 2 i 8) i := by
        cases e : x.2.1 2 i 8 with
        | none =>
          show σ2.1 8 (1 + 0) (b_fn σ2 i) = σ.1 8 (1 + 0) (b_fn σ i)
          rw [efn i hi2, sn 8 _ _ (by omega) (by omega) (by omega)]
        | some a =>
          show σ2.1 8 (1 + b_fn σ2 a) (b_fn σ2 i) = σ.1 8 (1 + b_fn σ a) (b_fn σ i)
          have hoa := (b2 i hop).1 a e
          have := (a2 a hoa).2.1.2
          rw [efn a (hne a hoa), efn i hi2, sn 8 _ _ (by omega) (by omega) (by omega)]
      rw [e1, e3, e4]
    have els : b_ls σ2 (b_m σ i) (b_rdy σ x i) (σ.1 2 i 3) = b_ls σ (b_m σ i) (b_rdy σ x i) (σ.1 2 i 3) := by
      unfold b_ls b_isB
      rw [s1 _ _ (by omega), s1 _ _ (by omega), s1 _ _ (by omega)]
    rw [xn 2 i 10 (by omega) (by omega) (fun z => hi2 z.2), xn 2 i 11 (by omega) (by omega) (fun z => hi2 z.2), ebm i hi2, erd, s2 i _ hi2, els]
    exact ⟨g1, g2⟩
  · rw [er2, xn 4 0 5 (by omega) (by omega) (by omega), q7]
    refine (v_mx_eq (x := x) (y := x2) _ _ (fun i hi => xn 2 i 11 (by omega) (by omega) (fun z => ?_))).symm
    obtain ⟨m3, u1, u2⟩ := q4 i hi
    exact hne i ((w1 m3 u1).2 i u2).1 z.2
  · rw [enm] at hm'
    rw [er] at hi
    rw [er2]
    exact b5 m' hm' i hi
  · rw [sn 6 0 1 (by omega) (by omega) (by omega)]; exact c1
  · rw [sn 6 0 7 (by omega) (by omega) (by omega)]; exact c2
  · by_cases e : j' = j
    · subst e; rw [n8.2.2.2.2]; exact m_wi (by omega) (by omega)
    · rw [sn 8 19 j' (by omega) (by omega) (by omega)]; exact c3 j' hj'
  · by_cases e : p = o
    · subst e; rw [n8.1, n8.2.2.1]; exact ⟨m_wi (by omega) (by omega), m_wi hF (by omega)⟩
    · rw [sn 8 21 p (by omega) (by omega) (by omega), sn 8 23 p (by omega) (by omega) (by omega)]; exact c4 p hp
  · by_cases e : p = o
    · subst e; rw [n8.2.2.2.1]; exact m_wi hT (by omega)
    · rw [sn 8 24 p (by omega) (by omega) (by omega)]; exact c5 p hp
  · rw [sn 8 13 m' (by omega) (by omega) (by omega), sn 8 14 m' (by omega) (by omega) (by omega)]; exact c6 m' (by omega) r2
  · rw [sn 8 20 j' (by omega) (by omega) (by omega)]; exact c7 j' (by omega) r2
  · unfold m_nm at d1 ⊢
    rw [sn 6 0 1 (by omega) (by omega) (by omega), enm]; exact d1
  · unfold m_nj at d2 ⊢
    rw [sn 6 0 7 (by omega) (by omega) (by omega), enj]; exact d2
  · have := d3 j' hj'
    unfold m_np at this ⊢
    rw [enj]
    by_cases e : j' = j
    · subst e
      rw [n8.2.2.2.2, if_pos hj, enp0]
      exact nI_clamp (by omega)
    · rw [sn 8 19 j' (by omega) (by omega) (by omega), this, enp _ e]
  · rcases (eop i).mp hi with hi | rfl
    · have hi2 := hne i hi
      have := d4 i hi
      unfold m_mc m_fm at this ⊢
      rw [sn 8 21 i (by omega) (by omega) (by omega), sn 8 22 i (by omega) (by omega) (by omega), sn 8 23 i (by omega) (by omega) (by omega), sn 8 24 i (by omega) (by omega) (by omega), s2 i _ hi2, s2 i _ hi2, ebm i hi2, efn i hi2]
      exact this
    · unfold m_mc m_fm
      rw [n8.1, n8.2.1, n8.2.2.1, n8.2.2.2.1, ebo, efo, no.2.1, no.2.2.2]
      exact ⟨nI_clamp (by omega), rfl, nI_clamp (by omega), rfl⟩
  · rw [enm] at hm'
    rw [sn 8 12 m' (by omega) (by omega) (by omega), sn 8 13 m' (by omega) (by omega) (by omega), sn 8 14 m' (by omega) (by omega) (by omega), s1 _ _ (by omega), s1 _ _ (by omega), s1 _ _ (by omega), s1 _ _ (by omega)]
    exact d5 m' hm'
  · have := d6 f g hf hg
    unfold m_su at this ⊢
    rw [sn 8 25 _ (by omega) (by omega) (by omega), sn 8 _ g (by omega) (by omega) (by omega)]
    exact this
  · rw [enj] at hj'
    rw [sn 8 18 j' (by omega) (by omega) (by omega), sn 8 20 j' (by omega) (by omega) (by omega), s0, s0]
    exact d7 j' hj'
  · obtain ⟨g1, g2⟩ := e1 m' hm'
    rw [x8 15 m' (Or.inl rfl)]
    exact ⟨g1, fun k hk => by rw [x8 16 _ (Or.inr rfl)]; exact g2 k hk⟩
  · have g := e2 m' hm'
    unfold m_rn at g ⊢
    rw [x8 15 m' (Or.inl rfl), g, enm, er]
  · unfold m_ro
    rw [x8 16 _ (Or.inr rfl)]
    rw [enm] at hm'
    rw [er] at hi
    exact e3 m' hm' k i hi
theorem x_oS_1 {i m c i' k : Nat} {n l f t : Int32} : (x_oS σ i m n l f t).1 c i' k = if c = 2 ∧ i' = i then (if k = 1 then n else if k = 3 then l else if k = 4 then f else if k = 5 then t else nI 0) else σ.1 c i' k := rfl
theorem x_oS_2 {i m c i' k : Nat} {n l f t : Int32} : (x_oS σ i m n l f t).2.1 c i' k = if c = 2 ∧ i' = i then (if k = 2 then some m else none) else σ.2.1 c i' k := rfl
theorem x_oS_2o {i m k : Nat} {n l f t : Int32} : (x_oS σ i m n l f t).2.1 2 i k = if k = 2 then some m else none := by rw [x_oS_2, if_pos ⟨rfl, rfl⟩]
theorem x_oX_1 {i c i' k : Nat} : (x_oX x i).1 c i' k = if c = 2 ∧ i' = i then nI 0 else x.1 c i' k := rfl
theorem x_oX_2 {i c i' k : Nat} : (x_oX x i).2.1 c i' k = if c = 2 ∧ i' = i then none else x.2.1 c i' k := rfl
theorem b_apL_1 {o : Nat} : (b_apL σ o).1 = σ.1 := by unfold b_apL; split <;> rfl
theorem b_apL_2 {o c i k : Nat} : (b_apL σ o).2.1 c i k = if o % 4 = 0 then σ.2.1 c i k else if c = 2 ∧ i = o - 1 ∧ k = 7 then some o else if c = 2 ∧ i = o ∧ k = 6 then some (o - 1) else σ.2.1 c i k := by unfold b_apL; split <;> rfl
theorem b_apS_1 {j n m c i k : Nat} {l f t : Int32} : (b_apS σ j n m l f t).1 c i k = if c = 1 ∧ i = m ∧ k = 2 then b_max ((x_oS σ (4 * j + n) m (nI n) l f t).1 1 m 2) (b_bc t) else (x_oS σ (4 * j + n) m (nI n) l f t).1 c i k := by
  unfold b_apS b_apM b_apA
  show (if c = 1 ∧ i = m ∧ k = 2 then b_max ((b_apL _ _).1 1 m 2) (b_bc t) else (b_apL _ _).1 c i k) = _
  rw [b_apL_1]
theorem b_apS_2 {j n m c i k : Nat} {l f t : Int32} : (b_apS σ j n m l f t).2.1 c i k = (b_apL (x_oS σ (4 * j + n) m (nI n) l f t) (4 * j + n)).2.1 c i k := rfl
theorem b_apS_l {j n m k : Nat} {l f t : Int32} : (b_apS σ j n m l f t).2.2 k = if k = 8 + j then σ.2.2 (8 + j) ++ [4 * j + n] else σ.2.2 k := by
  unfold b_apS b_apM b_apA
  show (if k = 8 + j then (b_apL _ _).2.2 (8 + j) ++ [4 * j + n] else (b_apL _ _).2.2 k) = _
  rw [b_apL_l, b_apL_l]
  rfl
theorem m_in_i {v a b : Int32} : m_in v a b = 0 ↔ (v < a ∨ ¬ v ≤ b) := by
  unfold m_in
  by_cases c : v < a
  · rw [if_pos c]; exact ⟨fun _ => Or.inl c, fun _ => rfl⟩
  · rw [if_neg c]
    by_cases e : b < v
    · rw [if_pos e]
      refine ⟨fun _ => Or.inr (fun q => ?_), fun _ => rfl⟩
      rw [Int32.lt_iff_toInt_lt] at e
      rw [Int32.le_iff_toInt_le] at q
      omega
    · rw [if_neg e]
      refine ⟨fun q => absurd q (by decide), fun q => ?_⟩
      rcases q with q | q
      · exact absurd q c
      · refine absurd ?_ q
        rw [Int32.lt_iff_toInt_lt] at e
        rw [Int32.le_iff_toInt_le]
        omega
theorem v_le3 {f : Int32} : f ≤ nI 3 ↔ f < nI 4 := by
  rw [Int32.lt_iff_toInt_lt, Int32.le_iff_toInt_le, nI_toInt (by omega), nI_toInt (by omega)]
  omega
/-- numbers of an operation that are as they may be -/
def v_rng (l f t : Int32) : Prop := ¬ l < nI 1 ∧ l ≤ nI 200 ∧ ¬ f < 0 ∧ f < nI 4 ∧ ¬ t < 0 ∧ t ≤ nI 255
theorem v_rngE {l f t : Int32} : m_rng l f t = 0 ↔ ¬ v_rng l f t := by
  unfold m_rng v_rng
  by_cases c1 : m_in l (nI 1) (nI 200) = 0
  · rw [if_pos c1]
    exact ⟨fun _ q => (m_in_i.mp c1).elim q.1 (fun z => z q.2.1), fun _ => rfl⟩
  · rw [if_neg c1]
    by_cases c2 : m_in f (nI 0) (nI 3) = 0
    · rw [if_pos c2]
      exact ⟨fun _ q => (m_in_i.mp c2).elim q.2.2.1 (fun z => z (v_le3.mpr q.2.2.2.1)), fun _ => rfl⟩
    · rw [if_neg c2]
      by_cases c3 : m_in t (nI 0) (nI 255) = 0
      · rw [if_pos c3]
        exact ⟨fun _ q => (m_in_i.mp c3).elim q.2.2.2.2.1 (fun z => z q.2.2.2.2.2), fun _ => rfl⟩
      · rw [if_neg c3]
        refine ⟨fun q => absurd q (by decide), fun q => absurd ?_ q⟩
        rw [m_in_i] at c1 c2 c3
        refine ⟨fun z => c1 (Or.inl z), Classical.byContradiction fun z => c1 (Or.inr z), fun z => c2 (Or.inl z), v_le3.mp (Classical.byContradiction fun z => c2 (Or.inr z)), fun z => c3 (Or.inl z), Classical.byContradiction fun z => c3 (Or.inr z)⟩
/-- what keeps an operation out -/
theorem v_addE {a b l f t : Int32} : (b_ix (b_nj σ) a = none ∧ b_addE σ a b l f t = some b_IO) ∨ (∃ j, b_ix (b_nj σ) a = some j ∧ b_ix (b_nm σ) b = none ∧ b_addE σ a b l f t = some b_IO) ∨
    ∃ j m, b_ix (b_nj σ) a = some j ∧ b_ix (b_nm σ) b = some m ∧ ((¬ v_rng l f t ∧ b_addE σ a b l f t = some b_IA) ∨ (v_rng l f t ∧
      b_addE σ a b l f t = (if nI (b_np σ j) < nI 4 then (if σ.1 0 j 3 = 0 then (if b_bc t ≤ σ.1 1 m 1 then none else some b_IS) else some b_IS) else some b_IS))) := by
  unfold b_addE v_rng
  cases e1 : b_ix (b_nj σ) a with
  | none => exact Or.inl ⟨rfl, rfl⟩
  | some j =>
    cases e2 : b_ix (b_nm σ) b with
    | none => exact Or.inr (Or.inl ⟨j, rfl, rfl, rfl⟩)
    | some m =>
      refine Or.inr (Or.inr ⟨j, m, rfl, rfl, ?_⟩)
      simp only []
      by_cases c1 : l < nI 1
      · rw [if_pos c1]; exact Or.inl ⟨fun q => q.1 c1, rfl⟩
      rw [if_neg c1]
      by_cases c2 : ¬ l ≤ nI 200
      · rw [if_neg c2]; exact Or.inl ⟨fun q => c2 q.2.1, rfl⟩
      have c2 := Classical.not_not.mp c2
      rw [if_pos c2]
      by_cases c3 : f < 0
      · rw [if_pos c3]; exact Or.inl ⟨fun q => q.2.2.1 c3, rfl⟩
      rw [if_neg c3]
      by_cases c4 : ¬ f < nI 4
      · rw [if_neg c4]; exact Or.inl ⟨fun q => c4 q.2.2.2.1, rfl⟩
      have c4 := Classical.not_not.mp c4
      rw [if_pos c4]
      by_cases c5 : t < 0
      · rw [if_pos c5]; exact Or.inl ⟨fun q => q.2.2.2.2.1 c5, rfl⟩
      rw [if_neg c5]
      by_cases c6 : ¬ t ≤ nI 255
      · rw [if_neg c6]; exact Or.inl ⟨fun q => c6 q.2.2.2.2.2, rfl⟩
      have c6 := Classical.not_not.mp c6
      rw [if_pos c6]
      exact Or.inr ⟨⟨c1, c2, c3, c4, c5, c6⟩, rfl⟩
theorem s_addOE {a b l f t : Int32} {E : String} (h : v_Inv σ x) (hE : b_addE σ a b l f t = some E) (hX : v_cX x w) (hr : v_rA x w) : ∃ c, m_addO σ w a b l f t = (nI 0, σ, m_thr (m_thr w c) (z_addOperation (.inr E))) ∧ v_Inv σ (m_thr (m_thr w c) (z_addOperation (.inr E))) := by
  have hw := h.go hX hr
  have hnj8 := h.1.1.1.2.2.2.1
  have hnm5 := v_nm5 h
  suffices hs : ∃ c, m_addO σ w a b l f t = (nI 0, σ, m_thr (m_thr w c) (z_addOperation (.inr E))) by
    obtain ⟨c, hc⟩ := hs
    exact ⟨c, hc, hw.thr.thr⟩
  unfold m_addO m_addOv
  rw [v_nj h, v_nm h]
  rcases v_addE (σ := σ) (a := a) (b := b) (l := l) (f := f) (t := t) with ⟨e1, e2⟩ | ⟨j, e0, e1, e2⟩ | ⟨j, m, e0, e1, ⟨e2, e3⟩ | ⟨e2, e3⟩⟩
  · rw [e2] at hE; cases hE
    rw [e1]
    exact ⟨_, rfl⟩
  · rw [e2] at hE; cases hE
    rw [e0, e1]
    exact ⟨_, rfl⟩
  · rw [e3] at hE; cases hE
    rw [e0, e1]
    simp only []
    rw [if_pos (v_rngE.mpr e2)]
    exact ⟨_, rfl⟩
  · obtain ⟨-, hj⟩ := v_ixe (by omega) e0
    obtain ⟨-, hm⟩ := v_ixe (by omega) e1
    have hp4 := (h.1.1.1.2.2.2.2 j hj).2
    rw [e0, e1]
    simp only []
    rw [if_neg (fun q => (v_rngE.mp q) e2)]
    have enp := h.2.2.1.2.2.1 j (by omega)
    rw [if_pos hj] at enp
    have e20 := (h.2.2.1.2.2.2.2.2.2 j hj).2
    rw [enp, e20, (h.2.2.1.2.2.2.2.1 m hm).1]
    obtain ⟨T, hT, rfl⟩ := nI_of (show ¬ t < nI 0 from e2.2.2.2.2.1)
    have hT2 : T < 256 := by
      have := (nI_leI (a := T) (b := 255) hT (by omega)).mp e2.2.2.2.2.2
      omega
    rw [v_count hT2]
    rw [v_bc256 T hT2] at e3
    rw [e3] at hE
    by_cases d1 : nI (b_np σ j) < nI 4
    · have := (nI_ltI (a := b_np σ j) (b := 4) (by omega) (by omega)).mp d1
      rw [if_pos d1] at hE
      rw [if_neg (by omega)]
      by_cases d2 : σ.1 0 j 3 = 0
      · rw [if_pos d2] at hE ⊢
        by_cases d3 : nI (v_pc T) ≤ σ.1 1 m 1
        · rw [if_pos d3] at hE; cases hE
        · rw [if_neg d3] at hE ⊢; cases hE; exact ⟨_, rfl⟩
      · rw [if_neg d2] at hE ⊢; cases hE; exact ⟨_, rfl⟩
    · have : ¬ b_np σ j < 4 := fun q => d1 ((nI_ltI (a := b_np σ j) (b := 4) (by omega) (by omega)).mpr q)
      rw [if_neg d1] at hE; cases hE
      rw [if_pos (by omega)]
      exact ⟨_, rfl⟩
theorem s_addO {a b l f t : Int32} {j m : Nat} (h : v_Inv σ x) (hE : b_addE σ a b l f t = none) (e1 : b_ix (b_nj σ) a = some j) (e2 : b_ix (b_nm σ) b = some m) (hX : v_cX (x_oX x (4 * j + b_np σ j)) w) (hr : v_rA (x_oX x (4 * j + b_np σ j)) w) {R : m_Rt} (hR : R = m_addO (b_apS σ j (b_np σ j) m l f t) w a b l f t) : v_Inv R.2.1 R.2.2 ∧ R.2.2.1 6 0 0 = nI 0 ∧ R.1 = nI (b_np σ j) := by
  have hnj8 := h.1.1.1.2.2.2.1
  have hnm5 := v_nm5 h
  obtain ⟨-, hj⟩ := v_ixe (by omega) e1
  obtain ⟨-, hm⟩ := v_ixe (by omega) e2
  have hp4 := (h.1.1.1.2.2.2.2 j hj).2
  obtain ⟨hg, hE2⟩ : v_rng l f t ∧ none = (if nI (b_np σ j) < nI 4 then (if σ.1 0 j 3 = 0 then (if b_bc t ≤ σ.1 1 m 1 then none else some b_IS) else some b_IS) else some b_IS) := by
    rcases v_addE (σ := σ) (a := a) (b := b) (l := l) (f := f) (t := t) with ⟨q1, q2⟩ | ⟨j', q0, q1, q2⟩ | ⟨j', m', q0, q1, ⟨q2, q3⟩ | ⟨q2, q3⟩⟩
    · rw [q2] at hE; cases hE
    · rw [q2] at hE; cases hE
    · rw [q3] at hE; cases hE
    · rw [e1] at q0
      rw [e2] at q1
      cases q0
      cases q1
      rw [q3] at hE
      exact ⟨q2, hE.symm⟩
  obtain ⟨L, hL, rfl⟩ := nI_of (show ¬ l < nI 0 from fun q => hg.1 (by
    rw [Int32.lt_iff_toInt_lt] at q ⊢
    rw [nI_toInt (by omega)] at q ⊢
    omega))
  obtain ⟨F, hF, rfl⟩ := nI_of (show ¬ f < nI 0 from hg.2.2.1)
  obtain ⟨T, hT, rfl⟩ := nI_of (show ¬ t < nI 0 from hg.2.2.2.2.1)
  have hL1 : 1 ≤ L := Nat.le_of_not_lt fun q => hg.1 ((nI_ltI (a := L) (b := 1) hL (by omega)).mpr q)
  have hL2 := (nI_leI (a := L) (b := 200) hL (by omega)).mp hg.2.1
  have hF2 := (nI_ltI (a := F) (b := 4) hF (by omega)).mp hg.2.2.2.1
  have hT2 := (nI_leI (a := T) (b := 255) hT (by omega)).mp hg.2.2.2.2.2
  rw [v_bc256 T (by omega)] at hE2
  by_cases d1 : ¬ nI (b_np σ j) < nI 4
  · rw [if_neg d1] at hE2; cases hE2
  have d1 := Classical.not_not.mp d1
  rw [if_pos d1] at hE2
  by_cases d2 : ¬ σ.1 0 j 3 = 0
  · rw [if_neg d2] at hE2; cases hE2
  have d2 := Classical.not_not.mp d2
  rw [if_pos d2] at hE2
  by_cases d3 : ¬ nI (v_pc T) ≤ σ.1 1 m 1
  · rw [if_neg d3] at hE2; cases hE2
  have d3 := Classical.not_not.mp d3
  have hn4 : b_np σ j < 4 := (nI_ltI (a := b_np σ j) (b := 4) (by omega) (by omega)).mp d1
  have hpc : v_pc T ≤ 8 := by unfold v_pc; omega
  -- what the reference reads
  have s68 : ∀ c i k, c = 6 ∨ c = 8 → (b_apS σ j (b_np σ j) m (nI L) (nI F) (nI T)).1 c i k = σ.1 c i k := fun c i k hc => by
    rw [b_apS_1, if_neg (by omega), x_oS_1, if_neg (by omega)]
  have enj : m_nj (b_apS σ j (b_np σ j) m (nI L) (nI F) (nI T)) = b_nj σ := by rw [← h.2.2.1.2.1]; unfold m_nj; rw [s68 _ _ _ (by omega)]
  have enm : m_nm (b_apS σ j (b_np σ j) m (nI L) (nI F) (nI T)) = b_nm σ := by rw [← h.2.2.1.1]; unfold m_nm; rw [s68 _ _ _ (by omega)]
  have enp : m_np (b_apS σ j (b_np σ j) m (nI L) (nI F) (nI T)) j = b_np σ j := by
    have := h.2.2.1.2.2.1 j (by omega)
    rw [if_pos hj] at this
    have e : m_np (b_apS σ j (b_np σ j) m (nI L) (nI F) (nI T)) j = m_np σ j := by unfold m_np; rw [s68 _ _ _ (by omega)]
    rw [e]; exact this
  have e20 := (h.2.2.1.2.2.2.2.2.2 j hj).2
  have eR : R = (nI (b_np σ j), m_opS (b_apS σ j (b_np σ j) m (nI L) (nI F) (nI T)) j m (nI L) (nI F) (nI T), m_thr (m_thr w (nI 0)) (nI 0)) := by
    rw [hR]
    unfold m_addO m_addOv
    rw [enj, enm, e1, e2]
    simp only []
    rw [if_neg (fun q => (v_rngE.mp q) hg), enp, if_neg (by omega), s68 _ _ _ (by omega), e20, if_pos d2, v_count (by omega), s68 _ _ _ (by omega), (h.2.2.1.2.2.2.2.1 m hm).1, if_pos d3]
  subst eR
  have s8 : ∀ c i k, ¬ (c = 8 ∧ ((21 ≤ i ∧ i ≤ 24 ∧ k = 4 * j + b_np σ j) ∨ (i = 19 ∧ k = j))) → (m_opS (b_apS σ j (b_np σ j) m (nI L) (nI F) (nI T)) j m (nI L) (nI F) (nI T)).1 c i k = (b_apS σ j (b_np σ j) m (nI L) (nI F) (nI T)).1 c i k := fun c i k hc => by
    unfold m_opS
    rw [enp, b_gs_ne (by omega), b_gs_ne (by omega), b_gs_ne (by omega), b_gs_ne (by omega), b_gs_ne (by omega)]
  refine ⟨v_addO (l := L) (F := F) (T := T) h hj hm rfl hn4 d2 ⟨hL1, hL2⟩ hF2 (by omega) (fun c g1 g2 => ?_) ?_ (fun k hk => ?_) (fun i k g1 g2 => ?_) ⟨?_, ?_, ?_⟩ (fun g => ?_) (fun c i k g1 g2 g3 => ?_) ⟨?_, ?_, ?_, ?_⟩ ⟨?_, ?_, ?_, ?_, ?_⟩ ?_ (fun i k hi => ?_) (fun k => ?_) (fun n h1 => ?_) (fun c i k h1 h2 h3 => ?_) (fun i k hi => ?_), m_thr_at, rfl⟩
  · rw [g1] at d3
    exact (nI_leI (by omega) (by omega)).mp d3
  · exact b_apS_l.trans (if_pos rfl)
  · exact b_apS_l.trans (if_neg hk)
  · show (b_apS σ j (b_np σ j) m (nI L) (nI F) (nI T)).2.1 2 i k = _
    rw [b_apS_2, b_apL_2, x_oS_2, if_neg (show ¬ ((2 : Nat) = 2 ∧ i = 4 * j + b_np σ j) from fun q => g1 q.2)]
    by_cases u : (4 * j + b_np σ j) % 4 = 0
    · rw [if_pos u]
    · rw [if_neg u, if_neg (by omega), if_neg (by omega)]
  · show (b_apS σ j (b_np σ j) m (nI L) (nI F) (nI T)).2.1 2 _ 2 = _
    rw [b_apS_2, b_apL_2, x_oS_2o, if_pos rfl, if_neg (show ¬ ((2 : Nat) = 2 ∧ 4 * j + b_np σ j = 4 * j + b_np σ j - 1 ∧ (2 : Nat) = 7) by omega), if_neg (show ¬ ((2 : Nat) = 2 ∧ 4 * j + b_np σ j = 4 * j + b_np σ j ∧ (2 : Nat) = 6) by omega), ite_self]
  · show (b_apS σ j (b_np σ j) m (nI L) (nI F) (nI T)).2.1 2 _ 6 = _
    rw [b_apS_2, b_apL_2, x_oS_2o, if_neg (show ¬ (6 : Nat) = 2 by omega), if_neg (show ¬ ((2 : Nat) = 2 ∧ 4 * j + b_np σ j = 4 * j + b_np σ j - 1 ∧ (6 : Nat) = 7) by omega), if_pos (show (2 : Nat) = 2 ∧ 4 * j + b_np σ j = 4 * j + b_np σ j ∧ (6 : Nat) = 6 from ⟨rfl, rfl, rfl⟩)]
    by_cases u : b_np σ j = 0
    · rw [if_pos u, if_pos (by omega)]
    · rw [if_neg u, if_neg (by omega)]
  · show (b_apS σ j (b_np σ j) m (nI L) (nI F) (nI T)).2.1 2 _ 7 = _
    rw [b_apS_2, b_apL_2, x_oS_2o, if_neg (show ¬ (7 : Nat) = 2 by omega)]
    by_cases u : (4 * j + b_np σ j) % 4 = 0
    · rw [if_pos u]
    · rw [if_neg u, if_neg (by omega), if_neg (by omega)]
  · show (b_apS σ j (b_np σ j) m (nI L) (nI F) (nI T)).2.1 2 _ 7 = _
    rw [b_apS_2, b_apL_2, if_neg (by omega), if_pos ⟨rfl, rfl, rfl⟩]
  · rw [s8 c i k g3, b_apS_1, if_neg g2, x_oS_1, if_neg g1]
  · rw [s8 _ _ _ (by omega), b_apS_1, if_neg (by omega), x_oS_1, if_pos ⟨rfl, rfl⟩]
    rfl
  · rw [s8 _ _ _ (by omega), b_apS_1, if_neg (by omega), x_oS_1, if_pos ⟨rfl, rfl⟩]
    rfl
  · rw [s8 _ _ _ (by omega), b_apS_1, if_neg (by omega), x_oS_1, if_pos ⟨rfl, rfl⟩]
    rfl
  · rw [s8 _ _ _ (by omega), b_apS_1, if_neg (by omega), x_oS_1, if_pos ⟨rfl, rfl⟩]
    rfl
  · unfold m_opS
    rw [enp, b_gs_ne (by omega), b_gs_ne (by omega), b_gs_ne (by omega), b_gs_ne (by omega), b_gs_at]
  · unfold m_opS
    rw [enp, b_gs_ne (by omega), b_gs_ne (by omega), b_gs_ne (by omega), b_gs_at]
  · unfold m_opS
    rw [enp, b_gs_ne (by omega), b_gs_ne (by omega), b_gs_at]
  · unfold m_opS
    rw [enp, b_gs_ne (by omega), b_gs_at]
  · unfold m_opS
    rw [enp, b_gs_at]
  · rw [s8 _ _ _ (by omega), b_apS_1, if_pos ⟨rfl, rfl, rfl⟩, x_oS_1, if_neg (by omega), v_bc256 T (by omega)]
  · show w.2.1 2 i k = _
    rw [hX.1, x_oX_2, if_neg (fun q => hi q.2)]
  · show w.2.1 2 _ k = _
    rw [hX.1, x_oX_2, if_pos ⟨rfl, rfl⟩]
  · show w.2.2 n = _
    rw [hX.2.1 n h1]
    rfl
  · rw [m_thr_n (by omega), m_thr_n (by omega), hX.2.2 c i k h1 h2, x_oX_1, if_neg h3]
  · rw [m_thr_n (by omega), m_thr_n (by omega), hr 8 i k (by omega), x_oX_1, if_neg (by omega)]
end VAO

