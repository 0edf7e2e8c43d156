/-! ===== the law's calls that make something: both sides ===== -/
section VYA
variable {α : bt_A} {σ σ1 σ2 x x1 w : bt_X}
/-- one thing more stands -/
theorem z_xV {c i q n c' i' : Nat} : bt_V (x_A α c i q n) c' i' ↔ (bt_V α c' i' ∨ (c' = c ∧ i' = i)) := Iff.rfl
theorem z_EA {c i q n : Nat} (h : ¬ bt_V α c i) (hc : c ≠ 8) (hn : n ≤ 110) : m_E α (x_A α c i q n) := by
  refine ⟨fun c' i' hV => ⟨Or.inl hV, x_A_ado (fun z => h (by rw [← z.1, ← z.2]; exact hV))⟩, fun _ => rfl, fun i' _ hV => hV.resolve_right (fun z => hc z.1.symm), ?_⟩
  show bt_us α + n ≤ bt_us α + 110
  omega
theorem z_EA2 {c i q n c2 i2 q2 n2 : Nat} (h : ¬ bt_V α c i) (hc : c ≠ 8) (h2 : ¬ bt_V α c2 i2) (hc2 : c2 ≠ 8) (hd : c ≠ c2) (hn : n + n2 ≤ 110) : m_E α (x_A (x_A α c i q n) c2 i2 q2 n2) := by
  refine ⟨fun c' i' hV => ⟨Or.inl (Or.inl hV), ?_⟩, fun _ => rfl, fun i' _ hV => (hV.resolve_right (fun z => hc2 z.1.symm)).resolve_right (fun z => hc z.1.symm), ?_⟩
  · rw [x_A_ado (fun z => h2 (by rw [← z.1, ← z.2]; exact hV)), x_A_ado (fun z => h (by rw [← z.1, ← z.2]; exact hV))]
  · show bt_us α + n + n2 ≤ bt_us α + 110
    omega
theorem m_J.xA {c i q n : Nat} (J : m_J α) : m_J (x_A α c i q n) := ⟨Or.inl J.1, fun k hk => ⟨Or.inl (J.2 k hk).1, (J.2 k hk).2⟩⟩
theorem z_mA (hV : z_V α σ) (hlt : b_nm σ < 4) {q0 q : Nat} (l0 : σ2.2.2 0 = σ.2.2 0 ++ [b_nm σ]) (ll : ∀ n, n ≠ 0 → σ2.2.2 n = σ.2.2 n) : z_V (x_mA α (b_nm σ) q0 q) σ2 := by
  obtain ⟨k1, k2, k3, k4, k5, k6, k7, k8⟩ := hV
  have enm : b_nm σ2 = b_nm σ + 1 := by unfold b_nm; rw [l0, List.length_append]; rfl
  have enj : b_nj σ2 = b_nj σ := by unfold b_nj; rw [ll _ (by omega)]
  have enp : ∀ j, b_np σ2 j = b_np σ j := fun j => by unfold b_np; rw [ll _ (by omega)]
  have eV : ∀ c i, bt_V (x_mA α (b_nm σ) q0 q) c i ↔ ((bt_V α c i ∨ (c = 1 ∧ i = b_nm σ)) ∨ (c = 7 ∧ i = 4 + b_nm σ)) := fun c i => Iff.rfl
  refine ⟨⟨Or.inl (Or.inl k1.1), Or.inl (Or.inl k1.2.1), Or.inl (Or.inl k1.2.2.1), Or.inl (Or.inl k1.2.2.2.1), Or.inl (Or.inl k1.2.2.2.2.1), Or.inl (Or.inl k1.2.2.2.2.2.1), Or.inl (Or.inl k1.2.2.2.2.2.2)⟩, fun n hn => ⟨Or.inl (Or.inl (k2 n hn).1), (k2 n hn).2⟩, fun m => ?_, fun j => ?_, fun i => ?_, fun n => ?_, k7.xA.xA, ⟨Or.inl (Or.inl k8.1), k8.2⟩⟩
  · rw [eV, k3, enm]; omega
  · rw [eV, k4, enj]; omega
  · rw [eV, k5]
    unfold v_op
    rw [enj, enp]
    constructor
    · rintro ((h | h) | h)
      · exact h
      · omega
      · omega
    · intro h; exact Or.inl (Or.inl h)
  · rw [eV, k6, enm, enj]; omega
theorem z_jA (hV : z_V α σ) {q0 q : Nat} (l1 : σ2.2.2 1 = σ.2.2 1 ++ [b_nj σ]) (lr : σ2.2.2 (8 + b_nj σ) = []) (ll : ∀ n, n ≠ 1 → n ≠ 8 + b_nj σ → σ2.2.2 n = σ.2.2 n) (hnm : b_nm σ ≤ 4) : z_V (x_jA α (b_nj σ) q0 q) σ2 := by
  obtain ⟨k1, k2, k3, k4, k5, k6, k7, k8⟩ := hV
  have enm : b_nm σ2 = b_nm σ := by unfold b_nm; rw [ll _ (by omega) (by omega)]
  have enj : b_nj σ2 = b_nj σ + 1 := by unfold b_nj; rw [l1, List.length_append]; rfl
  have enp : ∀ j, j ≠ b_nj σ → b_np σ2 j = b_np σ j := fun j hj => by unfold b_np; rw [ll _ (by omega) (by omega)]
  have enp0 : b_np σ2 (b_nj σ) = 0 := by unfold b_np; rw [lr]; rfl
  have eV : ∀ c i, bt_V (x_jA α (b_nj σ) q0 q) c i ↔ ((bt_V α c i ∨ (c = 0 ∧ i = b_nj σ)) ∨ (c = 7 ∧ i = 8 + b_nj σ)) := fun c i => Iff.rfl
  refine ⟨⟨Or.inl (Or.inl k1.1), Or.inl (Or.inl k1.2.1), Or.inl (Or.inl k1.2.2.1), Or.inl (Or.inl k1.2.2.2.1), Or.inl (Or.inl k1.2.2.2.2.1), Or.inl (Or.inl k1.2.2.2.2.2.1), Or.inl (Or.inl k1.2.2.2.2.2.2)⟩, fun n hn => ⟨Or.inl (Or.inl (k2 n hn).1), (k2 n hn).2⟩, fun m => ?_, fun j => ?_, fun i => ?_, fun n => ?_, k7.xA.xA, ⟨Or.inl (Or.inl k8.1), k8.2⟩⟩
  · rw [eV, k3, enm]; omega
  · rw [eV, k4, enj]; omega
  · rw [eV, k5]
    unfold v_op
    rw [enj]
    constructor
    · rintro ((h | h) | h)
      · exact ⟨by omega, by rw [enp _ (by omega)]; exact h.2⟩
      · omega
      · omega
    · rintro ⟨h1, h2⟩
      by_cases e : i / 4 = b_nj σ
      · rw [e, enp0] at h2; omega
      · rw [enp _ e] at h2
        exact Or.inl (Or.inl ⟨by omega, h2⟩)
  · rw [eV, k6, enm, enj]; omega
theorem z_oA (hV : z_V α σ) {q0 j : Nat} (hj : j < b_nj σ) (hp : b_np σ j < 4) (l8 : σ2.2.2 (8 + j) = σ.2.2 (8 + j) ++ [4 * j + b_np σ j]) (ll : ∀ n, n ≠ 8 + j → σ2.2.2 n = σ.2.2 n) : z_V (x_oA α (4 * j + b_np σ j) q0) σ2 := by
  obtain ⟨k1, k2, k3, k4, k5, k6, k7, k8⟩ := hV
  have enm : b_nm σ2 = b_nm σ := by unfold b_nm; rw [ll _ (by omega)]
  have enj : b_nj σ2 = b_nj σ := by unfold b_nj; rw [ll _ (by omega)]
  have enp : ∀ j', j' ≠ j → b_np σ2 j' = b_np σ j' := fun j' hj => by unfold b_np; rw [ll _ (by omega)]
  have enp0 : b_np σ2 j = b_np σ j + 1 := by
    unfold b_np
    rw [l8, List.length_append]
    rfl
  have eV : ∀ c i, bt_V (x_oA α (4 * j + b_np σ j) q0) c i ↔ (bt_V α c i ∨ (c = 2 ∧ i = 4 * j + b_np σ j)) := fun c i => Iff.rfl
  refine ⟨⟨Or.inl k1.1, Or.inl k1.2.1, Or.inl k1.2.2.1, Or.inl k1.2.2.2.1, Or.inl k1.2.2.2.2.1, Or.inl k1.2.2.2.2.2.1, Or.inl k1.2.2.2.2.2.2⟩, fun n hn => ⟨Or.inl (k2 n hn).1, (k2 n hn).2⟩, fun m => ?_, fun j => ?_, fun i => ?_, fun n => ?_, k7.xA, ⟨Or.inl k8.1, k8.2⟩⟩
  · rw [eV, k3, enm]; omega
  · rw [eV, k4, enj]; omega
  · rw [eV, k5]
    unfold v_op
    rw [enj]
    constructor
    · rintro (h | h)
      · by_cases e : i / 4 = j
        · refine ⟨h.1, ?_⟩
          have := h.2
          rw [e] at this ⊢
          omega
        · exact ⟨h.1, by rw [enp _ e]; exact h.2⟩
      · have e : i / 4 = j := by omega
        exact ⟨by omega, by rw [e]; omega⟩
    · rintro ⟨h1, h2⟩
      by_cases e : i / 4 = j
      · rw [e] at h2
        by_cases e2 : i % 4 = b_np σ j
        · exact Or.inr ⟨rfl, by omega⟩
        · exact Or.inl ⟨h1, by rw [e]; omega⟩
      · rw [enp _ e] at h2
        exact Or.inl ⟨h1, h2⟩
  · rw [eV, k6, enm, enj]; omega
/-- what is thrown, as the wrapper wants it -/
theorem z_Pthr {E : String} : bq_end (.inr E) (bt (bt_rm α) σ x) = z_P α (fun α' => α' = bt_rm α) (.inr E) σ x := by
  funext o w'
  apply propext
  constructor
  · rintro ⟨q1, q2⟩
    exact ⟨_, m_E.rm α, rfl, q1, q2⟩
  · rintro ⟨α', -, rfl, q1, q2⟩
    exact ⟨q1, q2⟩
theorem y_addMachine {G : bp_X} (hV : z_V α σ) (h : v_Inv σ x) (hroom : bt_us α + 110 ≤ bp_max) : ∃ (Q : bt_A → Prop) (k : Int32) (σ1 w : bt_X) (R : m_Rt), bq_S G mL_addMachine 9 [.ref (bt_ad α 5 0), .ref (bt_ad α 8 5)] (bt α σ x) (z_P α Q (.inl k) σ1 w) ∧
    (∀ α', Q α' → bq_S G mX6_addMachine 0 [.ref (bt_ad α' 6 0)] (bt α' σ1 w) (bq_ret (some (.int R.1)) (bt α' R.2.1 R.2.2))) ∧ z_E Q k R ∧ (∀ α', Q α' → m_J α') := by
  by_cases hlt : b_nm σ < 4
  · obtain ⟨w, hw⟩ : ∃ w, w = z_x (.inl (nI (b_nm σ))) (x_mX x (b_nm σ)) := ⟨_, rfl⟩
    obtain ⟨r1, r2, -⟩ := z_rx (F := .inl (nI (b_nm σ))) (x := x_mX x (b_nm σ))
    rw [← hw] at r1 r2
    have hn : ¬ bt_V α 1 (b_nm σ) := fun z => by have := (hV.2.2.1 _).mp z; omega
    have hl : ¬ bt_V α 7 (4 + b_nm σ) := fun z => by have := (hV.2.2.2.2.2.1 _).mp z; omega
    obtain ⟨hN, hK, hT, hRw⟩ := z_rr (σ' := bt_lp (x_mS σ (b_nm σ)) 0 (σ.2.2 0 ++ [b_nm σ])) (w := w) h (fun c i k hc => by rw [bt_lp_1, x_mS_1, if_neg (by omega)]) (v_rA.trans (fun c i k hc => by rw [x_mX_1, if_neg (by omega)]) r2)
    obtain ⟨s1, s2, s3⟩ := s_addM (w := w) h hlt r1 r2 rfl
    have hFr := r_addM (σ := bt_lp (x_mS σ (b_nm σ)) 0 (σ.2.2 0 ++ [b_nm σ])) (w := w)
    refine ⟨fun α' => ∃ q0 q, α' = x_mA α (b_nm σ) q0 q, z_addMachine (.inl (nI (b_nm σ))), bt_lp (x_mS σ (b_nm σ)) 0 (σ.2.2 0 ++ [b_nm σ]), w, m_addM (bt_lp (x_mS σ (b_nm σ)) 0 (σ.2.2 0 ++ [b_nm σ])) w, ?_, ?_, ?_, ?_⟩
    · rw [hw]
      refine w_addMachine hV.v5 hV.out (fun E q => by cases q) ?_
      have e : z_P α (fun α' => ∃ q0 q, α' = x_mA α (b_nm σ) q0 q) (.inl (nI (b_nm σ))) (bt_lp (x_mS σ (b_nm σ)) 0 (σ.2.2 0 ++ [b_nm σ])) (x_mX x (b_nm σ)) = (fun o w' => ∃ q0 q, o = .inl (some (.int (nI (b_nm σ)))) ∧ w' = bt (x_mA α (b_nm σ) q0 q) (bt_lp (x_mS σ (b_nm σ)) 0 (σ.2.2 0 ++ [b_nm σ])) (x_mX x (b_nm σ))) := by
        funext o w'
        apply propext
        constructor
        · rintro ⟨α', -, ⟨q0, q, rfl⟩, e1, e2⟩
          exact ⟨q0, q, e1, e2⟩
        · rintro ⟨q0, q, e1, e2⟩
          exact ⟨_, z_EA2 hn (by decide) hl (by decide) (by decide) (by decide), ⟨q0, q, rfl⟩, e1, e2⟩
      rw [e]
      exact k_addM (hV.ok h) hV.v7 hroom hlt
    · rintro α' ⟨q0, q, rfl⟩
      exact n_addM hV.J6.xA.xA hN
    · rintro α' ⟨q0, q, rfl⟩
      refine ⟨?_, s1, s2, fun _ => ?_⟩
      · refine (z_mA (σ2 := bt_lp (x_mS σ (b_nm σ)) 0 (σ.2.2 0 ++ [b_nm σ])) hV hlt bt_lp_at (fun n hn => bt_lp_ne hn)).lists ?_
        rw [hFr.1]
      · rw [hFr.2, s3, hw]
        show (bt_gs _ 8 5 0 (nI (b_nm σ))).1 8 5 0 = _
        exact b_gs_at
    · rintro α' ⟨q0, q, rfl⟩
      exact hV.J6.xA.xA
  · obtain ⟨hN, hK, hT, hRw⟩ := z_rr (σ' := σ) (w := x) h v_rA.refl v_rA.refl
    obtain ⟨s1, s2⟩ := s_addMN (w := x) h hlt v_cX.refl v_rA.refl
    refine ⟨fun α' => α' = bt_rm α, z_addMachine (.inr b_IS), σ, x, m_addM σ x, ?_, ?_, ?_, ?_⟩
    · refine w_addMachine (F := .inr b_IS) hV.v5 hV.out (fun E q => by cases q; rfl) ?_
      rw [← z_Pthr]
      exact k_addMN (hV.ok h) hroom hlt
    · rintro α' rfl
      exact n_addM hV.rm.J6 hN
    · rintro α' rfl
      rw [s1]
      exact ⟨hV.rm, s2, m_thr_at, fun q => absurd q (by decide)⟩
    · rintro α' rfl
      exact hV.rm.J6
theorem y_addJob {G : bp_X} {p0 : Int32} (hV : z_V α σ) (h : v_Inv σ x) (hroom : bt_us α + 110 ≤ bp_max) : ∃ (Q : bt_A → Prop) (k : Int32) (σ1 w : bt_X) (R : m_Rt), bq_S G mL_addJob 9 [.ref (bt_ad α 5 0), .int p0, .ref (bt_ad α 8 5)] (bt α σ x) (z_P α Q (.inl k) σ1 w) ∧
    (∀ α', Q α' → bq_S G mX6_addJob 1 [.ref (bt_ad α' 6 0), .int p0] (bt α' σ1 w) (bq_ret (some (.int R.1)) (bt α' R.2.1 R.2.2))) ∧ z_E Q k R ∧ (∀ α', Q α' → m_J α') := by
  have thr : ∀ E : String, (E = b_IA ∨ E = b_IS) → z_addJob (.inr E) ≠ 0 → bq_S G mX5_addJob 8 [.ref (bt_ad α 5 0), .int p0] (bt α σ x) (bq_end (.inr E) (bt (bt_rm α) σ x)) → m_addJ σ x p0 = (nI 0, σ, m_thr x (z_addJob (.inr E))) → v_Inv σ (m_thr x (z_addJob (.inr E))) → ∃ (Q : bt_A → Prop) (k : Int32) (σ1 w : bt_X) (R : m_Rt), bq_S G mL_addJob 9 [.ref (bt_ad α 5 0), .int p0, .ref (bt_ad α 8 5)] (bt α σ x) (z_P α Q (.inl k) σ1 w) ∧
      (∀ α', Q α' → bq_S G mX6_addJob 1 [.ref (bt_ad α' 6 0), .int p0] (bt α' σ1 w) (bq_ret (some (.int R.1)) (bt α' R.2.1 R.2.2))) ∧ z_E Q k R ∧ (∀ α', Q α' → m_J α') := by
    intro E hE hne hk e1 e2
    obtain ⟨hN, hK, hT, hRw⟩ := z_rr (σ' := σ) (w := x) h v_rA.refl v_rA.refl
    refine ⟨fun α' => α' = bt_rm α, z_addJob (.inr E), σ, x, m_addJ σ x p0, ?_, ?_, ?_, ?_⟩
    · refine w_addJob (F := .inr E) hV.v5 hV.out (fun E q => by cases q; exact hE) ?_
      rw [← z_Pthr]
      exact hk
    · rintro α' rfl
      exact n_addJ hV.rm.J6 hN
    · rintro α' rfl
      rw [e1]
      exact ⟨hV.rm, e2, m_thr_at, fun q => absurd q hne⟩
    · rintro α' rfl
      exact hV.rm.J6
  by_cases hd : p0 < 0 ∨ ¬ p0 ≤ nI 10000
  · obtain ⟨e1, e2⟩ := s_addJA (w := x) h hd v_cX.refl v_rA.refl
    exact thr b_IA (Or.inl rfl) (by decide) (k_addJA (hV.ok h) hroom hd) e1 e2
  have h1 : ¬ p0 < 0 := fun z => hd (Or.inl z)
  have h2 : p0 ≤ nI 10000 := Classical.byContradiction fun z => hd (Or.inr z)
  by_cases hlt : b_nj σ < 8
  · obtain ⟨w, hw⟩ : ∃ w, w = z_x (.inl (nI (b_nj σ))) (x_jX x (b_nj σ)) := ⟨_, rfl⟩
    obtain ⟨r1, r2, -⟩ := z_rx (F := .inl (nI (b_nj σ))) (x := x_jX x (b_nj σ))
    rw [← hw] at r1 r2
    have hnm := h.1.1.1.2.1
    have hn : ¬ bt_V α 0 (b_nj σ) := fun z => by have := (hV.2.2.2.1 _).mp z; omega
    have hl : ¬ bt_V α 7 (8 + b_nj σ) := fun z => by have := (hV.2.2.2.2.2.1 _).mp z; omega
    obtain ⟨hN, hK, hT, hRw⟩ := z_rr (σ' := bt_lp (x_jS σ (b_nj σ) p0) 1 (σ.2.2 1 ++ [b_nj σ])) (w := w) h (fun c i k hc => by rw [bt_lp_1, x_jS_1, if_neg (by omega)]) (v_rA.trans (fun c i k hc => by rw [x_jX_1, if_neg (by omega)]) r2)
    obtain ⟨s1, s2, s3⟩ := s_addJ (w := w) h h1 h2 hlt r1 r2 rfl
    have hFr := r_addJ (σ := bt_lp (x_jS σ (b_nj σ) p0) 1 (σ.2.2 1 ++ [b_nj σ])) (w := w) (d := p0)
    refine ⟨fun α' => ∃ q0 q, α' = x_jA α (b_nj σ) q0 q, z_addJob (.inl (nI (b_nj σ))), bt_lp (x_jS σ (b_nj σ) p0) 1 (σ.2.2 1 ++ [b_nj σ]), w, m_addJ (bt_lp (x_jS σ (b_nj σ) p0) 1 (σ.2.2 1 ++ [b_nj σ])) w p0, ?_, ?_, ?_, ?_⟩
    · rw [hw]
      refine w_addJob hV.v5 hV.out (fun E q => by cases q) ?_
      have e : z_P α (fun α' => ∃ q0 q, α' = x_jA α (b_nj σ) q0 q) (.inl (nI (b_nj σ))) (bt_lp (x_jS σ (b_nj σ) p0) 1 (σ.2.2 1 ++ [b_nj σ])) (x_jX x (b_nj σ)) = (fun o w' => ∃ q0 q, o = .inl (some (.int (nI (b_nj σ)))) ∧ w' = bt (x_jA α (b_nj σ) q0 q) (bt_lp (x_jS σ (b_nj σ) p0) 1 (σ.2.2 1 ++ [b_nj σ])) (x_jX x (b_nj σ))) := by
        funext o w'
        apply propext
        constructor
        · rintro ⟨α', -, ⟨q0, q, rfl⟩, e1, e2⟩
          exact ⟨q0, q, e1, e2⟩
        · rintro ⟨q0, q, e1, e2⟩
          exact ⟨_, z_EA2 hn (by decide) hl (by decide) (by decide) (by decide), ⟨q0, q, rfl⟩, e1, e2⟩
      rw [e]
      exact k_addJ (hV.ok h) hV.v7 hroom h1 h2 hlt
    · rintro α' ⟨q0, q, rfl⟩
      exact n_addJ hV.J6.xA.xA hN
    · rintro α' ⟨q0, q, rfl⟩
      refine ⟨?_, s1, s2, fun _ => ?_⟩
      · refine (z_jA (σ2 := bt_lp (x_jS σ (b_nj σ) p0) 1 (σ.2.2 1 ++ [b_nj σ])) hV bt_lp_at ?_ (fun n h1 h2 => ?_) hnm).lists ?_
        · rw [bt_lp_ne (by omega)]
          exact bt_lp_at
        · rw [bt_lp_ne h1]
          exact bt_lp_ne h2
        · rw [hFr.1]
      · rw [hFr.2, s3, hw]
        show (bt_gs _ 8 5 0 (nI (b_nj σ))).1 8 5 0 = _
        exact b_gs_at
    · rintro α' ⟨q0, q, rfl⟩
      exact hV.J6.xA.xA
  · obtain ⟨e1, e2⟩ := s_addJN (w := x) h h1 h2 hlt v_cX.refl v_rA.refl
    exact thr b_IS (Or.inr rfl) (by decide) (k_addJN (hV.ok h) hroom h1 h2 hlt) e1 e2
theorem v_addE_x {a b l f t : Int32} {E : String} (hE : b_addE σ a b l f t = some E) : E = b_IO ∨ E = b_IA ∨ E = b_IS := by
  rcases v_addE (σ := σ) (a := a) (b := b) (l := l) (f := f) (t := t) with ⟨e1, e2⟩ | ⟨j, e0, e1, e2⟩ | ⟨j, m, e0, e1, ⟨e2, e3⟩ | ⟨e2, e3⟩⟩
  · rw [e2] at hE; cases hE; exact Or.inl rfl
  · rw [e2] at hE; cases hE; exact Or.inl rfl
  · rw [e3] at hE; cases hE; exact Or.inr (Or.inl rfl)
  · rw [e3] at hE
    repeat' split at hE
    all_goals first | (cases hE; exact Or.inr (Or.inr rfl)) | cases hE
theorem v_addE_j {a b l f t : Int32} (h : v_Inv σ x) (hE : b_addE σ a b l f t = none) : ∃ j m, b_ix (b_nj σ) a = some j ∧ b_ix (b_nm σ) b = some m ∧ j < b_nj σ ∧ b_np σ j < 4 := by
  have hnj8 := h.1.1.1.2.2.2.1
  rcases v_addE (σ := σ) (a := a) (b := b) (l := l) (f := f) (t := t) with ⟨e1, e2⟩ | ⟨j, e0, e1, e2⟩ | ⟨j, m, e0, e1, ⟨e2, e3⟩ | ⟨e2, e3⟩⟩
  · rw [e2] at hE; cases hE
  · rw [e2] at hE; cases hE
  · rw [e3] at hE; cases hE
  · obtain ⟨-, hj⟩ := v_ixe (by omega) e0
    refine ⟨j, m, e0, e1, hj, ?_⟩
    have hp4 := (h.1.1.1.2.2.2.2 j hj).2
    rw [e3] at hE
    by_cases c : nI (b_np σ j) < nI 4
    · exact (nI_ltI (a := b_np σ j) (b := 4) (by omega) (by omega)).mp c
    · rw [if_neg c] at hE; cases hE
theorem y_addOperation {G : bp_X} {p0 p1 p2 p3 p4 : Int32} (hV : z_V α σ) (h : v_Inv σ x) (hroom : bt_us α + 110 ≤ bp_max) : ∃ (Q : bt_A → Prop) (k : Int32) (σ1 w : bt_X) (R : m_Rt), bq_S G mL_addOperation 11 [.ref (bt_ad α 5 0), .int p0, .int p1, .int p2, .int p3, .int p4, .ref (bt_ad α 8 5)] (bt α σ x) (z_P α Q (.inl k) σ1 w) ∧
    (∀ α', Q α' → bq_S G mX6_addOperation 2 [.ref (bt_ad α' 6 0), .int p0, .int p1, .int p2, .int p3, .int p4] (bt α' σ1 w) (bq_ret (some (.int R.1)) (bt α' R.2.1 R.2.2))) ∧ z_E Q k R ∧ (∀ α', Q α' → m_J α') := by
  cases hE : b_addE σ p0 p1 p2 p3 p4 with
  | some E =>
    obtain ⟨hN, hK, hT, hRw⟩ := z_rr (σ' := σ) (w := x) h v_rA.refl v_rA.refl
    obtain ⟨c, e1, e2⟩ := s_addOE (w := x) h hE v_cX.refl v_rA.refl
    have hx := v_addE_x hE
    refine ⟨fun α' => α' = bt_rm α, z_addOperation (.inr E), σ, x, m_addO σ x p0 p1 p2 p3 p4, ?_, ?_, ?_, ?_⟩
    · refine w_addOperation (F := .inr E) hV.v5 hV.out (fun E q => by cases q; exact hx) ?_
      rw [← z_Pthr]
      exact k_addOE (hV.ok h) hroom hE
    · rintro α' rfl
      exact n_addO hV.rm.J6 hN
    · rintro α' rfl
      rw [e1]
      refine ⟨hV.rm, e2, m_thr_at, fun q => absurd q ?_⟩
      unfold z_addOperation
      simp only []
      repeat' split
      all_goals decide
    · rintro α' rfl
      exact hV.rm.J6
  | none =>
    obtain ⟨j, m, e1, e2, hj, hp⟩ := v_addE_j h hE
    obtain ⟨w, hw⟩ : ∃ w, w = z_x (.inl (nI (b_np σ j))) (x_oX x (4 * j + b_np σ j)) := ⟨_, rfl⟩
    obtain ⟨r1, r2, -⟩ := z_rx (F := .inl (nI (b_np σ j))) (x := x_oX x (4 * j + b_np σ j))
    rw [← hw] at r1 r2
    have hn : ¬ bt_V α 2 (4 * j + b_np σ j) := fun z => by
      have := ((hV.2.2.2.2.1 _).mp z).2
      rw [show (4 * j + b_np σ j) / 4 = j by omega] at this
      omega
    obtain ⟨hN, hK, hT, hRw⟩ := z_rr (σ' := b_apS σ j (b_np σ j) m p2 p3 p4) (w := w) h (fun c i k hc => by rw [b_apS_1, if_neg (by omega), x_oS_1, if_neg (by omega)]) (v_rA.trans (fun c i k hc => by rw [x_oX_1, if_neg (by omega)]) r2)
    obtain ⟨s1, s2, s3⟩ := s_addO (w := w) h hE e1 e2 r1 r2 rfl
    have hFr := r_addO (σ := b_apS σ j (b_np σ j) m p2 p3 p4) (w := w) (a := p0) (b := p1) (l := p2) (f := p3) (t := p4)
    refine ⟨fun α' => ∃ q0, α' = x_oA α (4 * j + b_np σ j) q0, z_addOperation (.inl (nI (b_np σ j))), b_apS σ j (b_np σ j) m p2 p3 p4, w, m_addO (b_apS σ j (b_np σ j) m p2 p3 p4) w p0 p1 p2 p3 p4, ?_, ?_, ?_, ?_⟩
    · rw [hw]
      refine w_addOperation hV.v5 hV.out (fun E q => by cases q) ?_
      have e : z_P α (fun α' => ∃ q0, α' = x_oA α (4 * j + b_np σ j) q0) (.inl (nI (b_np σ j))) (b_apS σ j (b_np σ j) m p2 p3 p4) (x_oX x (4 * j + b_np σ j)) = (fun o w' => ∃ q0, o = .inl (some (.int (nI (b_np σ j)))) ∧ w' = bt (x_oA α (4 * j + b_np σ j) q0) (b_apS σ j (b_np σ j) m p2 p3 p4) (x_oX x (4 * j + b_np σ j))) := by
        funext o w'
        apply propext
        constructor
        · rintro ⟨α', -, ⟨q0, rfl⟩, e1, e2⟩
          exact ⟨q0, e1, e2⟩
        · rintro ⟨q0, e1, e2⟩
          exact ⟨_, z_EA hn (by decide) (by decide), ⟨q0, rfl⟩, e1, e2⟩
      rw [e]
      exact k_addO (hV.ok h) hV.v7 hroom hE e1 e2
    · rintro α' ⟨q0, rfl⟩
      exact n_addO hV.J6.xA hN
    · rintro α' ⟨q0, rfl⟩
      refine ⟨?_, s1, s2, fun _ => ?_⟩
      · refine (z_oA (σ2 := b_apS σ j (b_np σ j) m p2 p3 p4) hV hj hp (b_apS_l.trans (if_pos rfl)) (fun n hn => b_apS_l.trans (if_neg hn))).lists ?_
        rw [hFr.1]
      · rw [hFr.2, s3, hw]
        show (bt_gs _ 8 5 0 (nI (b_np σ j))).1 8 5 0 = _
        exact b_gs_at
    · rintro α' ⟨q0, rfl⟩
      exact hV.J6.xA
/-- the two questions without a throw -/
theorem y_span {G : bp_X} (hV : z_V α σ) (h : v_Inv σ x) (hroom : bt_us α + 110 ≤ bp_max) : ∃ u : Int32, bq_S G mX5_span 0 [.ref (bt_ad α 5 0)] (bt α σ x) (bq_ret (some (.int u)) (bt α σ x)) ∧
    bq_S G mX6_span 5 [.ref (bt_ad α 6 0)] (bt α σ x) (bq_ret (some (.int u)) (bt α (m_spanF σ x).2.1 (m_spanF σ x).2.2)) ∧ z_V α (m_spanF σ x).2.1 ∧ v_Inv (m_spanF σ x).2.1 (m_spanF σ x).2.2 := by
  obtain ⟨s1, s2⟩ := s_span h v_cX.refl v_rA.refl
  obtain ⟨hN, hK, hT, hRw⟩ := z_rr (σ' := σ) (w := x) h v_rA.refl v_rA.refl
  refine ⟨x.1 4 0 5, k_span (hV.ok h) (by omega), ?_, hV, s1⟩
  rw [← s2]
  exact n_spanF hV.J6 hN hK hRw
theorem y_crit {G : bp_X} (hV : z_V α σ) (h : v_Inv σ x) (hroom : bt_us α + 110 ≤ bp_max) : ∃ (u : Int32) (w : bt_X), bq_S G mX5_criticals 8 [.ref (bt_ad α 5 0)] (bt α σ x) (bq_ret (some (.int u)) (bt α σ w)) ∧
    bq_S G mX6_criticals 6 [.ref (bt_ad α 6 0)] (bt α σ w) (bq_ret (some (.int u)) (bt α (m_crit σ w).2.1 (m_crit σ w).2.2)) ∧ z_V α (m_crit σ w).2.1 ∧ v_Inv (m_crit σ w).2.1 (m_crit σ w).2.2 := by
  have hF := f_crit (σ := σ) (x := x)
  obtain ⟨s1, s2, s3⟩ := s_crit (w := b_path σ x) h v_cX.refl v_rA.refl
  obtain ⟨hN, hK, hT, hRw⟩ := z_rr (σ' := σ) (w := b_path σ x) h v_rA.refl v_pathX.2
  refine ⟨nI ((b_path σ x).2.2 3).length, b_path σ x, k_crit (hV.ok h) (by omega), ?_, hV, s1⟩
  have e : (m_crit σ (b_path σ x)).1 = nI ((b_path σ x).2.2 3).length := by
    have : (Sum.inl (nI ((b_path σ x).2.2 3).length) : Int32 ⊕ String) = .inl (m_crit σ (b_path σ x)).1 := s2
    exact (Sum.inl.inj this).symm
  rw [← e]
  exact n_crit hV.J6 hN hK hRw s3
end VYA
