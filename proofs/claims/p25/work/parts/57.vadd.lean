/-! ===== add a machine, a job: what holds between calls ===== -/
section VAM
variable {σ σ2 x x2 w : bt_X}
theorem b_cnt_app {x : bt_X} {m : Nat} : ∀ {L : List Nat}, b_cnt x (L ++ [m]) = b_cnt x L + (x.2.2 (4 + m)).length := by
  intro L
  induction L with
  | nil => show (x.2.2 (4 + m)).length + 0 = 0 + _; omega
  | cons a L ih => show (x.2.2 (4 + a)).length + b_cnt x (L ++ [m]) = (x.2.2 (4 + a)).length + b_cnt x L + _; rw [ih]; omega
theorem v_addM (h : v_Inv σ x) (hlt : b_nm σ < 4) (l0 : σ2.2.2 0 = σ.2.2 0 ++ [b_nm σ]) (ll : ∀ n, n ≠ 0 → σ2.2.2 n = σ.2.2 n)
    (sr : ∀ c i k, ¬ (c = 1 ∧ i = b_nm σ) → σ2.2.1 c i k = σ.2.1 c i k)
    (sn : ∀ c i k, ¬ (c = 1 ∧ i = b_nm σ) → ¬ (c = 8 ∧ i = 12 ∧ k = b_nm σ) → ¬ (c = 6 ∧ k = 1) → σ2.1 c i k = σ.1 c i k)
    (n1 : σ2.1 1 (b_nm σ) 1 = nI 4 ∧ σ2.1 1 (b_nm σ) 2 = nI 0 ∧ σ2.1 1 (b_nm σ) 3 = nI 0) (n12 : σ2.1 8 12 (b_nm σ) = nI 4) (n6 : σ2.1 6 0 1 = nI (b_nm σ + 1))
    (xr : ∀ c i k, ¬ (c = 1 ∧ i = b_nm σ) → x2.2.1 c i k = x.2.1 c i k) (xl : ∀ n, n ≠ 3 → n ≠ 4 + b_nm σ → x2.2.2 n = x.2.2 n) (xl0 : x2.2.2 (4 + b_nm σ) = [])
    (xn : ∀ c i k, c < 6 → ¬ (c = 2 ∧ (k = 12 ∨ k = 13)) → ¬ (c = 1 ∧ i = b_nm σ) → x2.1 c i k = x.1 c i k) (xn1 : x2.1 1 (b_nm σ) 6 = nI 0) (x8 : ∀ i k, i = 15 ∨ i = 16 → x2.1 8 i k = x.1 8 i k) : v_Inv σ2 x2 := by
  obtain ⟨⟨⟨a1, a2, a3, a4, a5, a6⟩, b1, b2, b3, b4, b5⟩, ⟨⟨c1, c2, c3⟩, c4, c5, c6, c7⟩, ⟨d1, d2, d3, d4, d5, d6, d7⟩, ⟨e1, e2, e3⟩⟩ := h
  obtain ⟨w1, w2, w3, w4⟩ := b1
  obtain ⟨q1, q2, q3, q4, q5, q6, q7⟩ := b4
  have hnj8 := a1.2.2.2.1
  have enm : b_nm σ2 = b_nm σ + 1 := by unfold b_nm; rw [l0, List.length_append]; rfl
  have enj : b_nj σ2 = b_nj σ := by unfold b_nj; rw [ll _ (by omega)]
  have enp : ∀ j, b_np σ2 j = b_np σ j := fun j => by unfold b_np; rw [ll _ (by omega)]
  have eop : ∀ i, v_op σ2 i ↔ v_op σ i := fun i => by unfold v_op; rw [enj, enp]
  have efn : ∀ i, b_fn σ2 i = b_fn σ i := fun i => by unfold b_fn; rw [sn 2 i 4 (by omega) (by omega) (by omega)]
  have ebm : ∀ i, b_m σ2 i = b_m σ i := fun i => by unfold b_m; rw [sr 2 i 2 (by omega)]
  have s2 : ∀ i k, σ2.1 2 i k = σ.1 2 i k := fun i k => sn 2 i k (by omega) (by omega) (by omega)
  have x21 : ∀ i k, x2.2.1 2 i k = x.2.1 2 i k := fun i k => xr 2 i k (by omega)
  have er : ∀ m, m < b_nm σ → x2.2.2 (4 + m) = x.2.2 (4 + m) := fun m hm => xl _ (by omega) (by omega)
  have er2 : x2.2.2 2 = x.2.2 2 := xl 2 (by omega) (by omega)
  have hmb : ∀ i, v_op σ i → b_m σ i < b_nm σ := fun i hi => by
    obtain ⟨⟨m, hm, hm2⟩, -⟩ := a2 i hi
    unfold b_m
    rw [hm]
    exact hm2
  -- machines: old, or the new one
  have mo : ∀ m, m < b_nm σ2 → m < b_nm σ ∨ m = b_nm σ := fun m hm => by omega
  have s1 : ∀ m k, m < b_nm σ → σ2.1 1 m k = σ.1 1 m k := fun m k hm => sn 1 m k (by omega) (by omega) (by omega)
  have hin : ∀ i, (∃ m, m < b_nm σ2 ∧ i ∈ x2.2.2 (4 + m)) ↔ ∃ m, m < b_nm σ ∧ i ∈ x.2.2 (4 + m) := fun i => by
    constructor
    · rintro ⟨m, hm, hi⟩
      rcases mo m hm with hm | rfl
      · exact ⟨m, hm, by rw [← er m hm]; exact hi⟩
      · rw [xl0] at hi; exact absurd hi List.not_mem_nil
    · rintro ⟨m, hm, hi⟩
      exact ⟨m, by omega, by rw [er m hm]; exact hi⟩
  refine ⟨⟨⟨⟨?_, by omega, ?_, by omega, fun j hj => ?_⟩, fun i hi => ?_, fun m hm => ?_, fun f g hf hg => ?_, fun j hj => ?_, fun m hm => ?_⟩, ⟨fun m hm => ?_, fun m hm k i hi => ?_, fun m hm i hi h0 => ?_, ?_⟩, fun i hi => ?_, fun i hi => ?_, ⟨fun m hm => ?_, fun j hj => ?_, by rw [er2]; exact q3, fun i hi => ?_, fun n i hn a ha => ?_, fun i hi => ?_, ?_⟩, fun m hm i hi => ?_⟩, ⟨⟨?_, ?_, fun j hj => ?_⟩, fun p hp => ?_, fun p hp => ?_, fun m r1 r2 => ?_, fun j r1 r2 => ?_⟩, ⟨?_, ?_, fun j hj => ?_, fun i hi => ?_, fun m hm => ?_, fun f g hf hg => ?_, fun j hj => ?_⟩, ⟨fun m hm => ?_, fun m hm => ?_, fun m hm k i hi => ?_⟩⟩
  · rw [l0, enm, a1.1, List.range_succ]
  · rw [ll _ (by omega), enj]; exact a1.2.2.1
  · rw [enj] at hj
    rw [ll _ (by omega), enp]; exact a1.2.2.2.2 j hj
  · obtain ⟨⟨m, g1, g2⟩, g3⟩ := a2 i ((eop i).mp hi)
    refine ⟨⟨m, by rw [sr 2 i 2 (by omega)]; exact g1, by omega⟩, ?_⟩
    rw [efn, s2, s2, s2, s2, sr 2 i 6 (by omega), sr 2 i 7 (by omega), enp]
    exact g3
  · rcases mo m hm with hm | rfl
    · rw [s1 m _ hm, s1 m _ hm, s1 m _ hm]; exact a3 m hm
    · exact ⟨Or.inl n1.2.2, fun q => absurd n1.2.2 q⟩
  · rw [sn 8 _ g (by omega) (by omega) (by omega)]; exact a4 f g hf hg
  · rw [enj] at hj
    rw [sn 0 j 0 (by omega) (by omega) (by omega), sn 0 j 1 (by omega) (by omega) (by omega), sn 0 j 3 (by omega) (by omega) (by omega), enp]
    exact a5 j hj
  · rcases mo m hm with hm | rfl
    · obtain ⟨c, t, g1, g2, g3, g4, g5, g6, g7⟩ := a6 m hm
      refine ⟨c, t, by rw [s1 m _ hm]; exact g1, g2, g3, by rw [s1 m _ hm]; exact g4, g5, fun i hi he => ?_, g7.imp id (fun q => ?_)⟩
      · rw [s2]; exact g6 i ((eop i).mp hi) (by rw [← ebm]; exact he)
      · obtain ⟨i, u1, u2, u3⟩ := q
        exact ⟨i, (eop i).mpr u1, by rw [ebm]; exact u2, by rw [s2]; exact u3⟩
    · refine ⟨4, 0, n1.1, by omega, by omega, n1.2.1, by omega, fun i hi he => ?_, Or.inl rfl⟩
      have := hmb i ((eop i).mp hi)
      rw [ebm] at he
      omega
  · rcases mo m hm with hm | rfl
    · rw [er m hm]
      exact ⟨(w1 m hm).1, fun i hi => ⟨(eop i).mpr ((w1 m hm).2 i hi).1, by rw [ebm]; exact ((w1 m hm).2 i hi).2⟩⟩
    · rw [xl0]
      exact ⟨List.nodup_nil, fun i hi => absurd hi List.not_mem_nil⟩
  · rcases mo m hm with hm | rfl
    · rw [er m hm] at hi ⊢
      rw [x21, x21]; exact w2 m hm k i hi
    · rw [xl0] at hi; simp at hi
  · refine (hin _).mpr ?_
    obtain ⟨m', g1, g2⟩ := (hin i).mp ⟨m, hm, hi⟩
    exact w3 m' g1 i g2 h0
  · rw [l0, b_cnt_app, xl0]
    rw [b_cnt_ext (x := x) (fun m hm => by rw [er m (by rw [a1.1] at hm; exact List.mem_range.mp hm)])]
    exact w4
  · rw [x21, x21]
    obtain ⟨g1, g2⟩ := b2 i ((eop i).mp hi)
    exact ⟨fun a ha => (eop a).mpr (g1 a ha), fun a ha => (eop a).mpr (g2 a ha)⟩
  · rw [hin, sn 0 _ 3 (by omega) (by omega) (by omega)]
    exact b3 i ((eop i).mp hi)
  · rcases mo m hm with hm | rfl
    · rw [er m hm, er2, xn 1 m 6 (by omega) (by omega) (by omega)]
      exact q1 m hm
    · exact ⟨0, xn1, Nat.zero_le _, fun k i hk => by rw [xl0] at hk; simp at hk⟩
  · rw [enj] at hj
    rw [xn 0 j 4 (by omega) (by omega) (by omega), er2]
    exact q2 j hj
  · rw [er2] at hi
    exact (hin i).mpr (q4 i hi)
  · rw [er2] at hn ⊢
    rw [sr 2 i 6 (by omega), x21] at ha
    exact q5 n i hn a ha
  · rw [er2] at hi
    obtain ⟨m, hm, him⟩ := q4 i hi
    obtain ⟨k, hk⟩ := v_mem him
    have hop := ((w1 m hm).2 i him).1
    obtain ⟨g1, g2⟩ := q6 i hi
    have hmi := hmb i hop
    have erd : b_rdy σ2 x2 i = b_rdy σ x i := by
      unfold b_rdy
      rw [x21, sr 2 i 6 (by omega)]
      have e1 : b_free x2 (x.2.1 2 i 8) = b_free x (x.2.1 2 i 8) := by
        cases e : x.2.1 2 i 8 with
        | none => rfl
        | some a => exact xn 2 a 11 (by omega) (by omega) (by omega)
      have e3 : ((σ.2.1 2 i 6).map fun a => x2.1 2 a 11) = ((σ.2.1 2 i 6).map fun a => x.1 2 a 11) := by
        cases e : σ.2.1 2 i 6 with
        | none => rfl
        | some a => exact congrArg some (xn 2 a 11 (by omega) (by omega) (by omega))
      have e4 : b_bet σ2 (x.2.1 2 i 8) i = b_bet σ (x.2.1 2 i 8) i := by
        cases e : x.2.1 2 i 8 with
        | none =>
          show σ2.1 8 (1 + 0) (b_fn σ2 i) = σ.1 8 (1 + 0) (b_fn σ i)
          rw [efn, sn 8 _ _ (by omega) (by omega) (by omega)]
        | some a =>
          show σ2.1 8 (1 + b_fn σ2 a) (b_fn σ2 i) = σ.1 8 (1 + b_fn σ a) (b_fn σ i)
          have := (a2 a ((b2 i hop).1 a e)).2.1.2
          rw [efn, efn, sn 8 _ _ (by omega) (by omega) (by omega)]
      rw [e1, e3, e4]
    have els : b_ls σ2 (b_m σ i) (b_rdy σ x i) (σ.1 2 i 3) = b_ls σ (b_m σ i) (b_rdy σ x i) (σ.1 2 i 3) := by
      unfold b_ls b_isB
      rw [s1 _ _ hmi, s1 _ _ hmi, s1 _ _ hmi]
    rw [xn 2 i 10 (by omega) (by omega) (by omega), xn 2 i 11 (by omega) (by omega) (by omega), ebm, erd, s2, els]
    exact ⟨g1, g2⟩
  · rw [er2, xn 4 0 5 (by omega) (by omega) (by omega), q7]
    exact (v_mx_eq (x := x) (y := x2) _ _ (fun i _ => xn 2 i 11 (by omega) (by omega) (by omega))).symm
  · rw [er2]
    obtain ⟨m', g1, g2⟩ := (hin i).mp ⟨m, hm, hi⟩
    exact b5 m' g1 i g2
  · rw [n6]; exact m_wi (by omega) (by omega)
  · rw [sn 6 0 7 (by omega) (by omega) (by omega)]; exact c2
  · rw [sn 8 19 j (by omega) (by omega) (by omega)]; exact c3 j hj
  · rw [sn 8 21 p (by omega) (by omega) (by omega), sn 8 23 p (by omega) (by omega) (by omega)]; exact c4 p hp
  · rw [sn 8 24 p (by omega) (by omega) (by omega)]; exact c5 p hp
  · rw [sn 8 13 m (by omega) (by omega) (by omega), sn 8 14 m (by omega) (by omega) (by omega)]; exact c6 m (by omega) r2
  · rw [sn 8 20 j (by omega) (by omega) (by omega)]; exact c7 j (by omega) r2
  · unfold m_nm
    rw [n6, enm]
    exact nI_clamp (by omega)
  · unfold m_nj at d2 ⊢
    rw [sn 6 0 7 (by omega) (by omega) (by omega), enj]; exact d2
  · have := d3 j hj
    unfold m_np at this ⊢
    rw [sn 8 19 j (by omega) (by omega) (by omega), enj, enp]; exact this
  · have := d4 i ((eop i).mp hi)
    unfold m_mc m_fm at this ⊢
    rw [sn 8 21 i (by omega) (by omega) (by omega), sn 8 22 i (by omega) (by omega) (by omega), sn 8 23 i (by omega) (by omega) (by omega), sn 8 24 i (by omega) (by omega) (by omega), s2, s2, ebm, efn]
    exact this
  · rcases mo m hm with hm | rfl
    · rw [sn 8 12 m (by omega) (by omega) (by omega), sn 8 13 m (by omega) (by omega) (by omega), sn 8 14 m (by omega) (by omega) (by omega), s1 m _ hm, s1 m _ hm, s1 m _ hm, s1 m _ hm]
      exact d5 m hm
    · rw [n12, n1.1, n1.2.2, sn 8 13 _ (by omega) (by omega) (by omega), sn 8 14 _ (by omega) (by omega) (by omega)]
      exact ⟨rfl, fun _ => c6 _ (Nat.le_refl _) hlt, fun q => absurd rfl q⟩
  · have := d6 f g hf hg
    unfold m_su at this ⊢
    rw [sn 8 25 _ (by omega) (by omega) (by omega), sn 8 _ g (by omega) (by omega) (by omega)]
    exact this
  · rw [enj] at hj
    rw [sn 8 18 j (by omega) (by omega) (by omega), sn 8 20 j (by omega) (by omega) (by omega), sn 0 j 1 (by omega) (by omega) (by omega), sn 0 j 3 (by omega) (by omega) (by omega)]
    exact d7 j hj
  · obtain ⟨g1, g2⟩ := e1 m hm
    rw [x8 15 m (Or.inl rfl)]
    exact ⟨g1, fun k hk => by rw [x8 16 _ (Or.inr rfl)]; exact g2 k hk⟩
  · have g := e2 m hm
    unfold m_rn at g ⊢
    rw [x8 15 m (Or.inl rfl), g, enm]
    by_cases u : m < b_nm σ
    · rw [if_pos u, if_pos (by omega), er m u]
    · rw [if_neg u]
      by_cases u2 : m = b_nm σ
      · subst u2; rw [if_pos (by omega), xl0]; rfl
      · rw [if_neg (by omega)]
  · unfold m_ro
    rw [x8 16 _ (Or.inr rfl)]
    rcases mo m hm with hm | rfl
    · rw [er m hm] at hi; exact e3 m hm k i hi
    · rw [xl0] at hi; simp at hi
theorem v_addJ {d : Nat} (h : v_Inv σ x) (hlt : b_nj σ < 8) (hd : d ≤ 10000) (l1 : σ2.2.2 1 = σ.2.2 1 ++ [b_nj σ]) (lr : σ2.2.2 (8 + b_nj σ) = []) (ll : ∀ n, n ≠ 1 → n ≠ 8 + b_nj σ → σ2.2.2 n = σ.2.2 n)
    (sr : ∀ c i k, ¬ (c = 0 ∧ i = b_nj σ) → σ2.2.1 c i k = σ.2.1 c i k)
    (sn : ∀ c i k, ¬ (c = 0 ∧ i = b_nj σ) → ¬ (c = 8 ∧ i = 18 ∧ k = b_nj σ) → ¬ (c = 6 ∧ k = 7) → σ2.1 c i k = σ.1 c i k)
    (n0 : σ2.1 0 (b_nj σ) 0 = nI (b_nj σ) ∧ σ2.1 0 (b_nj σ) 1 = nI d ∧ σ2.1 0 (b_nj σ) 3 = nI 0) (n18 : σ2.1 8 18 (b_nj σ) = nI d) (n6 : σ2.1 6 0 7 = nI (b_nj σ + 1))
    (xr : ∀ c i k, ¬ (c = 0 ∧ i = b_nj σ) → x2.2.1 c i k = x.2.1 c i k) (xl : ∀ n, n ≠ 3 → x2.2.2 n = x.2.2 n)
    (xn : ∀ c i k, c < 6 → ¬ (c = 2 ∧ (k = 12 ∨ k = 13)) → ¬ (c = 0 ∧ i = b_nj σ) → x2.1 c i k = x.1 c i k) (xn0 : x2.1 0 (b_nj σ) 4 = nI 0) (x8 : ∀ i k, i = 15 ∨ i = 16 → x2.1 8 i k = x.1 8 i k) : v_Inv σ2 x2 := by
  obtain ⟨⟨⟨a1, a2, a3, a4, a5, a6⟩, b1, b2, b3, b4, b5⟩, ⟨⟨c1, c2, c3⟩, c4, c5, c6, c7⟩, ⟨d1, d2, d3, d4, d5, d6, d7⟩, ⟨e1, e2, e3⟩⟩ := h
  obtain ⟨w1, w2, w3, w4⟩ := b1
  obtain ⟨q1, q2, q3, q4, q5, q6, q7⟩ := b4
  have hnm4 := a1.2.1
  have enm : b_nm σ2 = b_nm σ := by unfold b_nm; rw [ll _ (by omega) (by omega)]
  have enj : b_nj σ2 = b_nj σ + 1 := by unfold b_nj; rw [l1, List.length_append]; rfl
  have enp : ∀ j, j ≠ b_nj σ → b_np σ2 j = b_np σ j := fun j hj => by unfold b_np; rw [ll _ (by omega) (by omega)]
  have enp0 : b_np σ2 (b_nj σ) = 0 := by unfold b_np; rw [lr]; rfl
  have eop : ∀ i, v_op σ2 i ↔ v_op σ i := fun i => by
    unfold v_op
    rw [enj]
    constructor
    · rintro ⟨g1, g2⟩
      by_cases e : i / 4 = b_nj σ
      · rw [e, enp0] at g2; omega
      · rw [enp _ e] at g2; exact ⟨by omega, g2⟩
    · rintro ⟨g1, g2⟩
      exact ⟨by omega, by rw [enp _ (by omega)]; exact g2⟩
  have efn : ∀ i, b_fn σ2 i = b_fn σ i := fun i => by unfold b_fn; rw [sn 2 i 4 (by omega) (by omega) (by omega)]
  have ebm : ∀ i, b_m σ2 i = b_m σ i := fun i => by unfold b_m; rw [sr 2 i 2 (by omega)]
  have s2 : ∀ i k, σ2.1 2 i k = σ.1 2 i k := fun i k => sn 2 i k (by omega) (by omega) (by omega)
  have s1 : ∀ m k, σ2.1 1 m k = σ.1 1 m k := fun m k => sn 1 m k (by omega) (by omega) (by omega)
  have x21 : ∀ i k, x2.2.1 2 i k = x.2.1 2 i k := fun i k => xr 2 i k (by omega)
  have er : ∀ m, x2.2.2 (4 + m) = x.2.2 (4 + m) := fun m => xl _ (by omega)
  have er2 : x2.2.2 2 = x.2.2 2 := xl 2 (by omega)
  have jo : ∀ j, j < b_nj σ2 → j < b_nj σ ∨ j = b_nj σ := fun j hj => by omega
  have s0 : ∀ j k, j < b_nj σ → σ2.1 0 j k = σ.1 0 j k := fun j k hj => sn 0 j k (by omega) (by omega) (by omega)
  refine ⟨⟨⟨⟨?_, by omega, ?_, by omega, fun j hj => ?_⟩, fun i hi => ?_, fun m hm => ?_, fun f g hf hg => ?_, fun j hj => ?_, fun m hm => ?_⟩, ⟨fun m hm => ?_, fun m hm k i hi => ?_, fun m hm i hi h0 => ?_, ?_⟩, fun i hi => ?_, fun i hi => ?_, ⟨fun m hm => ?_, fun j hj => ?_, by rw [er2]; exact q3, fun i hi => ?_, fun n i hn a ha => ?_, fun i hi => ?_, ?_⟩, fun m hm i hi => ?_⟩, ⟨⟨?_, ?_, fun j hj => ?_⟩, fun p hp => ?_, fun p hp => ?_, fun m r1 r2 => ?_, fun j r1 r2 => ?_⟩, ⟨?_, ?_, fun j hj => ?_, fun i hi => ?_, fun m hm => ?_, fun f g hf hg => ?_, fun j hj => ?_⟩, ⟨fun m hm => ?_, fun m hm => ?_, fun m hm k i hi => ?_⟩⟩
  · rw [ll _ (by omega) (by omega), enm]; exact a1.1
  · rw [l1, enj, a1.2.2.1, List.range_succ]
  · rcases jo j hj with hj | rfl
    · rw [ll _ (by omega) (by omega), enp _ (by omega)]; exact a1.2.2.2.2 j hj
    · rw [lr, enp0]; exact ⟨rfl, by omega⟩
  · have hi := (eop i).mp hi
    have := hi.1
    rw [enm, efn, s2, s2, s2, s2, sr 2 i 2 (by omega), sr 2 i 6 (by omega), sr 2 i 7 (by omega), enp _ (by omega)]
    exact a2 i hi
  · rw [enm] at hm
    rw [s1, s1, s1]; exact a3 m hm
  · rw [sn 8 _ g (by omega) (by omega) (by omega)]; exact a4 f g hf hg
  · rcases jo j hj with hj | rfl
    · rw [s0 j _ hj, s0 j _ hj, s0 j _ hj, enp _ (by omega)]
      exact a5 j hj
    · exact ⟨n0.1, ⟨d, n0.2.1, hd⟩, Or.inl n0.2.2⟩
  · rw [enm] at hm
    obtain ⟨c, t, g1, g2, g3, g4, g5, g6, g7⟩ := a6 m hm
    refine ⟨c, t, by rw [s1]; exact g1, g2, g3, by rw [s1]; exact g4, g5, fun i hi he => ?_, g7.imp id (fun q => ?_)⟩
    · rw [s2]; exact g6 i ((eop i).mp hi) (by rw [← ebm]; exact he)
    · obtain ⟨i, u1, u2, u3⟩ := q
      exact ⟨i, (eop i).mpr u1, by rw [ebm]; exact u2, by rw [s2]; exact u3⟩
  · rw [enm] at hm
    rw [er m]
    exact ⟨(w1 m hm).1, fun i hi => ⟨(eop i).mpr ((w1 m hm).2 i hi).1, by rw [ebm]; exact ((w1 m hm).2 i hi).2⟩⟩
  · rw [enm] at hm
    rw [er m] at hi ⊢
    rw [x21, x21]; exact w2 m hm k i hi
  · rw [enm] at hm
    rw [er m] at hi
    obtain ⟨m', g1, g2⟩ := w3 m hm i hi h0
    exact ⟨m', by omega, by rw [er]; exact g2⟩
  · rw [ll _ (by omega) (by omega), b_cnt_ext (x := x) (fun m hm => by rw [er m])]
    exact w4
  · rw [x21, x21]
    obtain ⟨g1, g2⟩ := b2 i ((eop i).mp hi)
    exact ⟨fun a ha => (eop a).mpr (g1 a ha), fun a ha => (eop a).mpr (g2 a ha)⟩
  · have hi := (eop i).mp hi
    rw [s0 _ 3 hi.1, enm]
    simp only [er]
    exact b3 i hi
  · rw [enm] at hm
    rw [er m, er2, xn 1 m 6 (by omega) (by omega) (by omega)]
    exact q1 m hm
  · rcases jo j hj with hj | rfl
    · rw [xn 0 j 4 (by omega) (by omega) (by omega), er2]
      exact q2 j hj
    · refine ⟨0, xn0, by omega, fun k hk => ⟨fun q => ?_, fun q => by omega⟩⟩
      rw [er2] at q
      obtain ⟨m, hm, him⟩ := q4 _ q
      have := ((w1 m hm).2 _ him).1.1
      omega
  · rw [er2] at hi
    obtain ⟨m, g1, g2⟩ := q4 i hi
    exact ⟨m, by omega, by rw [er]; exact g2⟩
  · rw [er2] at hn ⊢
    rw [sr 2 i 6 (by omega), x21] at ha
    exact q5 n i hn a ha
  · rw [er2] at hi
    obtain ⟨m, hm, him⟩ := q4 i hi
    obtain ⟨k, hk⟩ := v_mem him
    have hop := ((w1 m hm).2 i him).1
    obtain ⟨g1, g2⟩ := q6 i hi
    have erd : b_rdy σ2 x2 i = b_rdy σ x i := by
      unfold b_rdy
      rw [x21, sr 2 i 6 (by omega)]
      have e1 : b_free x2 (x.2.1 2 i 8) = b_free x (x.2.1 2 i 8) := by
        cases e : x.2.1 2 i 8 with
        | none => rfl
        | some a => exact xn 2 a 11 (by omega) (by omega) (by omega)
      have e3 : ((σ.2.1 2 i 6).map fun a => x2.1 2 a 11) = ((σ.2.1 2 i 6).map fun a => x.1 2 a 11) := by
        cases e : σ.2.1 2 i 6 with
        | none => rfl
        | some a => exact congrArg some (xn 2 a 11 (by omega) (by omega) (by omega))
      have e4 : b_bet σ2 (x.2.1 2 i 8) i = b_bet σ (x.2.1 2 i 8) i := by
        cases e : x.2.1 2 i 8 with
        | none =>
          show σ2.1 8 (1 + 0) (b_fn σ2 i) = σ.1 8 (1 + 0) (b_fn σ i)
          rw [efn, sn 8 _ _ (by omega) (by omega) (by omega)]
        | some a =>
          show σ2.1 8 (1 + b_fn σ2 a) (b_fn σ2 i) = σ.1 8 (1 + b_fn σ a) (b_fn σ i)
          have := (a2 a ((b2 i hop).1 a e)).2.1.2
          rw [efn, efn, sn 8 _ _ (by omega) (by omega) (by omega)]
      rw [e1, e3, e4]
    have els : b_ls σ2 (b_m σ i) (b_rdy σ x i) (σ.1 2 i 3) = b_ls σ (b_m σ i) (b_rdy σ x i) (σ.1 2 i 3) := by
      unfold b_ls b_isB
      rw [s1, s1, s1]
    rw [xn 2 i 10 (by omega) (by omega) (by omega), xn 2 i 11 (by omega) (by omega) (by omega), ebm, erd, s2, els]
    exact ⟨g1, g2⟩
  · rw [er2, xn 4 0 5 (by omega) (by omega) (by omega), q7]
    exact (v_mx_eq (x := x) (y := x2) _ _ (fun i _ => xn 2 i 11 (by omega) (by omega) (by omega))).symm
  · rw [enm] at hm
    rw [er] at hi
    rw [er2]
    exact b5 m hm i hi
  · rw [sn 6 0 1 (by omega) (by omega) (by omega)]; exact c1
  · rw [n6]; exact m_wi (by omega) (by omega)
  · rw [sn 8 19 j (by omega) (by omega) (by omega)]; exact c3 j hj
  · rw [sn 8 21 p (by omega) (by omega) (by omega), sn 8 23 p (by omega) (by omega) (by omega)]; exact c4 p hp
  · rw [sn 8 24 p (by omega) (by omega) (by omega)]; exact c5 p hp
  · rw [sn 8 13 m (by omega) (by omega) (by omega), sn 8 14 m (by omega) (by omega) (by omega)]; exact c6 m (by omega) r2
  · rw [sn 8 20 j (by omega) (by omega) (by omega)]; exact c7 j (by omega) r2
  · unfold m_nm at d1 ⊢
    rw [sn 6 0 1 (by omega) (by omega) (by omega), enm]; exact d1
  · unfold m_nj
    rw [n6, enj]
    exact nI_clamp (by omega)
  · have := d3 j hj
    unfold m_np at this ⊢
    rw [sn 8 19 j (by omega) (by omega) (by omega), this, enj]
    by_cases u : j < b_nj σ
    · rw [if_pos u, if_pos (by omega), enp _ (by omega)]
    · rw [if_neg u]
      by_cases u2 : j = b_nj σ
      · subst u2; rw [if_pos (by omega), enp0]
      · rw [if_neg (by omega)]
  · have := d4 i ((eop i).mp hi)
    unfold m_mc m_fm at this ⊢
    rw [sn 8 21 i (by omega) (by omega) (by omega), sn 8 22 i (by omega) (by omega) (by omega), sn 8 23 i (by omega) (by omega) (by omega), sn 8 24 i (by omega) (by omega) (by omega), s2, s2, ebm, efn]
    exact this
  · rw [enm] at hm
    rw [sn 8 12 m (by omega) (by omega) (by omega), sn 8 13 m (by omega) (by omega) (by omega), sn 8 14 m (by omega) (by omega) (by omega), s1, s1, s1, s1]
    exact d5 m hm
  · have := d6 f g hf hg
    unfold m_su at this ⊢
    rw [sn 8 25 _ (by omega) (by omega) (by omega), sn 8 _ g (by omega) (by omega) (by omega)]
    exact this
  · rcases jo j hj with hj | rfl
    · rw [sn 8 18 j (by omega) (by omega) (by omega), sn 8 20 j (by omega) (by omega) (by omega), s0 j _ hj, s0 j _ hj]
      exact d7 j hj
    · rw [n18, n0.2.1, n0.2.2, sn 8 20 _ (by omega) (by omega) (by omega)]
      exact ⟨rfl, c7 _ (Nat.le_refl _) hlt⟩
  · obtain ⟨g1, g2⟩ := e1 m hm
    rw [x8 15 m (Or.inl rfl)]
    exact ⟨g1, fun k hk => by rw [x8 16 _ (Or.inr rfl)]; exact g2 k hk⟩
  · have g := e2 m hm
    unfold m_rn at g ⊢
    rw [x8 15 m (Or.inl rfl), g, enm, er]
  · unfold m_ro
    rw [x8 16 _ (Or.inr rfl)]
    rw [enm] at hm
    rw [er] at hi
    exact e3 m hm k i hi
theorem x_mS_1 {m c i k : Nat} : (x_mS σ m).1 c i k = if c = 1 ∧ i = m then (if k = 1 then nI 4 else nI 0) else σ.1 c i k := rfl
theorem x_mS_2 {m c i k : Nat} : (x_mS σ m).2.1 c i k = if c = 1 ∧ i = m then none else σ.2.1 c i k := rfl
theorem x_mX_1 {m c i k : Nat} : (x_mX x m).1 c i k = if c = 1 ∧ i = m then nI 0 else x.1 c i k := rfl
theorem x_mX_2 {m c i k : Nat} : (x_mX x m).2.1 c i k = if c = 1 ∧ i = m then none else x.2.1 c i k := rfl
theorem x_jS_1 {j c i k : Nat} {d : Int32} : (x_jS σ j d).1 c i k = if c = 0 ∧ i = j then (if k = 0 then nI j else if k = 1 then d else nI 0) else σ.1 c i k := rfl
theorem x_jS_2 {j c i k : Nat} {d : Int32} : (x_jS σ j d).2.1 c i k = if c = 0 ∧ i = j then none else σ.2.1 c i k := rfl
theorem x_jX_1 {j c i k : Nat} : (x_jX x j).1 c i k = if c = 0 ∧ i = j then nI 0 else x.1 c i k := rfl
theorem x_jX_2 {j c i k : Nat} : (x_jX x j).2.1 c i k = if c = 0 ∧ i = j then none else x.2.1 c i k := rfl
theorem s_addM (h : v_Inv σ x) (hlt : b_nm σ < 4) (hX : v_cX (x_mX x (b_nm σ)) w) (hr : v_rA (x_mX x (b_nm σ)) w) {R : m_Rt} (hR : R = m_addM (bt_lp (x_mS σ (b_nm σ)) 0 (σ.2.2 0 ++ [b_nm σ])) w) : v_Inv R.2.1 R.2.2 ∧ R.2.2.1 6 0 0 = nI 0 ∧ R.1 = nI (b_nm σ) := by
  have enm : m_nm (bt_lp (x_mS σ (b_nm σ)) 0 (σ.2.2 0 ++ [b_nm σ])) = b_nm σ := by
    rw [← h.2.2.1.1]
    show nN ((x_mS σ (m_nm σ)).1 6 0 1) = nN (σ.1 6 0 1)
    rw [x_mS_1, if_neg (by omega)]
  have eR : R = (nI (b_nm σ), bt_gs (bt_gs (bt_lp (x_mS σ (b_nm σ)) 0 (σ.2.2 0 ++ [b_nm σ])) 8 12 (b_nm σ) (nI 4)) 6 0 1 (nI (b_nm σ + 1)), m_thr w (nI 0)) := by
    rw [hR]
    unfold m_addM
    rw [enm, if_neg (by omega)]
  subst eR
  refine ⟨v_addM h hlt ?_ (fun n hn => ?_) (fun c i k hc => ?_) (fun c i k h1 h2 h3 => ?_) ⟨?_, ?_, ?_⟩ ?_ ?_ (fun c i k hc => ?_) (fun n h1 h2 => ?_) ?_ (fun c i k h1 h2 h3 => ?_) ?_ (fun i k hi => ?_), m_thr_at, rfl⟩
  · exact bt_lp_at
  · exact bt_lp_ne hn
  · show (x_mS σ (b_nm σ)).2.1 c i k = _
    rw [x_mS_2, if_neg hc]
  · rw [b_gs_ne (by omega), b_gs_ne h2, bt_lp_1, x_mS_1, if_neg h1]
  · rw [b_gs_ne (by omega), b_gs_ne (by omega), bt_lp_1, x_mS_1, if_pos ⟨rfl, rfl⟩]
    rfl
  · rw [b_gs_ne (by omega), b_gs_ne (by omega), bt_lp_1, x_mS_1, if_pos ⟨rfl, rfl⟩]
    rfl
  · rw [b_gs_ne (by omega), b_gs_ne (by omega), bt_lp_1, x_mS_1, if_pos ⟨rfl, rfl⟩]
    rfl
  · rw [b_gs_ne (by omega), b_gs_at]
  · rw [b_gs_at]
  · show w.2.1 c i k = _
    rw [hX.1, x_mX_2, if_neg hc]
  · show w.2.2 n = _
    rw [hX.2.1 n h1]
    exact bt_lp_ne h2
  · show w.2.2 (4 + b_nm σ) = []
    rw [hX.2.1 _ (by omega)]
    exact bt_lp_at
  · rw [m_thr_n (by omega), hX.2.2 c i k h1 h2, x_mX_1, if_neg h3]
  · rw [m_thr_n (by omega), hX.2.2 1 _ 6 (by omega) (by omega), x_mX_1, if_pos ⟨rfl, rfl⟩]
  · rw [m_thr_n (by omega), hr 8 i k (by omega), x_mX_1, if_neg (by omega)]
theorem s_addMN (h : v_Inv σ x) (hlt : ¬ b_nm σ < 4) (hX : v_cX x w) (hr : v_rA x w) : m_addM σ w = (nI 0, σ, m_thr w (nI 1)) ∧ v_Inv σ (m_thr w (nI 1)) := by
  refine ⟨?_, (h.go hX hr).thr⟩
  have := h.1.1.1.2.1
  unfold m_addM
  rw [h.2.2.1.1, if_pos (by omega)]
theorem v_due {d : Int32} : m_in d (nI 0) (nI 10000) = 0 ↔ (d < 0 ∨ ¬ d ≤ nI 10000) := by
  unfold m_in
  by_cases c : d < nI 0
  · rw [if_pos c]; exact ⟨fun _ => Or.inl c, fun _ => rfl⟩
  · rw [if_neg c]
    by_cases e : nI 10000 < d
    · rw [if_pos e]
      refine ⟨fun _ => Or.inr (fun q => ?_), fun _ => rfl⟩
      rw [Int32.lt_iff_toInt_lt] at e
      rw [Int32.le_iff_toInt_le] at q
      omega
    · rw [if_neg e]
      refine ⟨fun q => absurd q (by decide), fun q => ?_⟩
      rcases q with q | q
      · exact absurd q c
      · refine absurd ?_ q
        rw [Int32.lt_iff_toInt_lt] at e
        rw [Int32.le_iff_toInt_le]
        omega
theorem s_addJ {due : Int32} (h : v_Inv σ x) (h1 : ¬ due < 0) (h2 : due ≤ nI 10000) (hlt : b_nj σ < 8) (hX : v_cX (x_jX x (b_nj σ)) w) (hr : v_rA (x_jX x (b_nj σ)) w) {R : m_Rt} (hR : R = m_addJ (bt_lp (x_jS σ (b_nj σ) due) 1 (σ.2.2 1 ++ [b_nj σ])) w due) : v_Inv R.2.1 R.2.2 ∧ R.2.2.1 6 0 0 = nI 0 ∧ R.1 = nI (b_nj σ) := by
  have enj : m_nj (bt_lp (x_jS σ (b_nj σ) due) 1 (σ.2.2 1 ++ [b_nj σ])) = b_nj σ := by
    rw [← h.2.2.1.2.1]
    show nN ((x_jS σ (m_nj σ) due).1 6 0 7) = nN (σ.1 6 0 7)
    rw [x_jS_1, if_neg (by omega)]
  obtain ⟨d, hd, rfl⟩ := nI_of (show ¬ due < nI 0 from h1)
  have hd2 : d ≤ 10000 := (nI_leI (a := d) (b := 10000) hd (by omega)).mp h2
  have eR : R = (nI (b_nj σ), bt_gs (bt_gs (bt_lp (x_jS σ (b_nj σ) (nI d)) 1 (σ.2.2 1 ++ [b_nj σ])) 8 18 (b_nj σ) (nI d)) 6 0 7 (nI (b_nj σ + 1)), m_thr w (nI 0)) := by
    rw [hR]
    unfold m_addJ
    rw [if_neg (fun q => (v_due.mp q).elim h1 (fun z => z h2)), enj, if_neg (by omega)]
  subst eR
  refine ⟨v_addJ (d := d) h hlt hd2 ?_ ?_ (fun n h1 h2 => ?_) (fun c i k hc => ?_) (fun c i k h1 h2 h3 => ?_) ⟨?_, ?_, ?_⟩ ?_ ?_ (fun c i k hc => ?_) (fun n h1 => ?_) (fun c i k h1 h2 h3 => ?_) ?_ (fun i k hi => ?_), m_thr_at, rfl⟩
  · exact bt_lp_at
  · show (bt_lp (x_jS σ (b_nj σ) (nI d)) 1 (σ.2.2 1 ++ [b_nj σ])).2.2 (8 + b_nj σ) = []
    rw [bt_lp_ne (by omega)]
    exact bt_lp_at
  · show (bt_lp (x_jS σ (b_nj σ) (nI d)) 1 (σ.2.2 1 ++ [b_nj σ])).2.2 n = _
    rw [bt_lp_ne h1]
    exact bt_lp_ne h2
  · show (x_jS σ (b_nj σ) (nI d)).2.1 c i k = _
    rw [x_jS_2, if_neg hc]
  · rw [b_gs_ne (by omega), b_gs_ne h2, bt_lp_1, x_jS_1, if_neg h1]
  · rw [b_gs_ne (by omega), b_gs_ne (by omega), bt_lp_1, x_jS_1, if_pos ⟨rfl, rfl⟩]
    rfl
  · rw [b_gs_ne (by omega), b_gs_ne (by omega), bt_lp_1, x_jS_1, if_pos ⟨rfl, rfl⟩]
    rfl
  · rw [b_gs_ne (by omega), b_gs_ne (by omega), bt_lp_1, x_jS_1, if_pos ⟨rfl, rfl⟩]
    rfl
  · rw [b_gs_ne (by omega), b_gs_at]
  · rw [b_gs_at]
  · show w.2.1 c i k = _
    rw [hX.1, x_jX_2, if_neg hc]
  · show w.2.2 n = _
    rw [hX.2.1 n h1]
    rfl
  · rw [m_thr_n (by omega), hX.2.2 c i k h1 h2, x_jX_1, if_neg h3]
  · rw [m_thr_n (by omega), hX.2.2 0 _ 4 (by omega) (by omega), x_jX_1, if_pos ⟨rfl, rfl⟩]
  · rw [m_thr_n (by omega), hr 8 i k (by omega), x_jX_1, if_neg (by omega)]
theorem s_addJA {due : Int32} (h : v_Inv σ x) (hd : due < 0 ∨ ¬ due ≤ nI 10000) (hX : v_cX x w) (hr : v_rA x w) : m_addJ σ w due = (nI 0, σ, m_thr w (nI 1)) ∧ v_Inv σ (m_thr w (nI 1)) := by
  refine ⟨?_, (h.go hX hr).thr⟩
  unfold m_addJ
  rw [if_pos (v_due.mpr hd)]
theorem s_addJN {due : Int32} (h : v_Inv σ x) (h1 : ¬ due < 0) (h2 : due ≤ nI 10000) (hlt : ¬ b_nj σ < 8) (hX : v_cX x w) (hr : v_rA x w) : m_addJ σ w due = (nI 0, σ, m_thr w (nI 2)) ∧ v_Inv σ (m_thr w (nI 2)) := by
  refine ⟨?_, (h.go hX hr).thr⟩
  have := h.1.1.1.2.2.2.1
  unfold m_addJ
  rw [if_neg (fun q => (v_due.mp q).elim h1 (fun z => z h2)), h.2.2.1.2.1, if_pos (by omega)]
end VAM

