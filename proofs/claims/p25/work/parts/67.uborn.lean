/-! ===== the law's calls that make something ===== -/
section UN
variable {α α' : bt_A} {σ σ' σ1 σ2 x x' x1 x2 w : bt_X} {G : bp_X}
theorem z_EA {c i q n : Nat} (h : ¬ bt_V α c i) (hc : c ≠ 8) (hn : n ≤ 110) : m_E α (x_A α c i q n) := by
  refine ⟨fun c' i' hV => ⟨Or.inl hV, x_A_ado (fun z => h (by rw [← z.1, ← z.2]; exact hV))⟩, fun _ => rfl, fun i' _ hV => hV.resolve_right (fun z => hc z.1.symm), ?_⟩
  show bt_us α + n ≤ bt_us α + 110
  omega
theorem z_EA2 {c i q n c2 i2 q2 n2 : Nat} (h : ¬ bt_V α c i) (hc : c ≠ 8) (h2 : ¬ bt_V α c2 i2) (hc2 : c2 ≠ 8) (hd : c ≠ c2) (hn : n + n2 ≤ 110) : m_E α (x_A (x_A α c i q n) c2 i2 q2 n2) := by
  refine ⟨fun c' i' hV => ⟨Or.inl (Or.inl hV), ?_⟩, fun _ => rfl, fun i' _ hV => (hV.resolve_right (fun z => hc2 z.1.symm)).resolve_right (fun z => hc z.1.symm), ?_⟩
  · rw [x_A_ado (fun z => h2 (by rw [← z.1, ← z.2]; exact hV)), x_A_ado (fun z => h (by rw [← z.1, ← z.2]; exact hV))]
  · show bt_us α + n + n2 ≤ bt_us α + 110
    omega
theorem z_mA (hV : z_V α σ) (hlt : b_nm σ < 4) {q0 q : Nat} (l0 : σ2.2.2 0 = σ.2.2 0 ++ [b_nm σ]) (ll : ∀ n, n ≠ 0 → σ2.2.2 n = σ.2.2 n) : z_V (x_mA α (b_nm σ) q0 q) σ2 := by
  obtain ⟨k1, k2, k3, k4, k5, k6, k7, k8⟩ := hV
  have enm : b_nm σ2 = b_nm σ + 1 := by unfold b_nm; rw [l0, List.length_append]; rfl
  have enj : b_nj σ2 = b_nj σ := by unfold b_nj; rw [ll _ (by omega)]
  have enp : ∀ j, b_np σ2 j = b_np σ j := fun j => by unfold b_np; rw [ll _ (by omega)]
  have eV : ∀ c i, bt_V (x_mA α (b_nm σ) q0 q) c i ↔ ((bt_V α c i ∨ (c = 1 ∧ i = b_nm σ)) ∨ (c = 7 ∧ i = 4 + b_nm σ)) := fun c i => Iff.rfl
  refine ⟨⟨Or.inl (Or.inl k1.1), Or.inl (Or.inl k1.2.1), Or.inl (Or.inl k1.2.2.1), Or.inl (Or.inl k1.2.2.2.1), Or.inl (Or.inl k1.2.2.2.2.1), Or.inl (Or.inl k1.2.2.2.2.2.1), Or.inl (Or.inl k1.2.2.2.2.2.2)⟩, fun n hn => ⟨Or.inl (Or.inl (k2 n hn).1), (k2 n hn).2⟩, fun m => ?_, fun j => ?_, fun i => ?_, fun n => ?_, ⟨⟨Or.inl (Or.inl k7.1.1), k7.1.2⟩, ⟨Or.inl (Or.inl k7.2.1.1), k7.2.1.2⟩, ⟨Or.inl (Or.inl k7.2.2.1.1), k7.2.2.1.2⟩, ⟨Or.inl (Or.inl k7.2.2.2.1.1), k7.2.2.2.1.2⟩, ⟨Or.inl (Or.inl k7.2.2.2.2.1), k7.2.2.2.2.2⟩⟩, ⟨fun i q => ?_, fun n q => ?_⟩⟩
  · rw [eV, k3, enm]; omega
  · rw [eV, k4, enj]; omega
  · rw [eV, k5]
    unfold v_op
    rw [enj, enp]
    constructor
    · rintro ((h | h) | h)
      · exact h
      · omega
      · omega
    · intro h; exact Or.inl (Or.inl h)
  · rw [eV, k6, enm, enj]; omega
  · rw [eV] at q
    rcases q with (q | q) | q
    · exact k8.1 i q
    · omega
    · omega
  · rw [eV] at q
    rcases q with (q | q) | q
    · exact k8.2 n q
    · omega
    · omega
theorem z_jA (hV : z_V α σ) {q0 q : Nat} (l1 : σ2.2.2 1 = σ.2.2 1 ++ [b_nj σ]) (lr : σ2.2.2 (8 + b_nj σ) = []) (ll : ∀ n, n ≠ 1 → n ≠ 8 + b_nj σ → σ2.2.2 n = σ.2.2 n) (hnm : b_nm σ ≤ 4) : z_V (x_jA α (b_nj σ) q0 q) σ2 := by
  obtain ⟨k1, k2, k3, k4, k5, k6, k7, k8⟩ := hV
  have enm : b_nm σ2 = b_nm σ := by unfold b_nm; rw [ll _ (by omega) (by omega)]
  have enj : b_nj σ2 = b_nj σ + 1 := by unfold b_nj; rw [l1, List.length_append]; rfl
  have enp : ∀ j, j ≠ b_nj σ → b_np σ2 j = b_np σ j := fun j hj => by unfold b_np; rw [ll _ (by omega) (by omega)]
  have enp0 : b_np σ2 (b_nj σ) = 0 := by unfold b_np; rw [lr]; rfl
  have eV : ∀ c i, bt_V (x_jA α (b_nj σ) q0 q) c i ↔ ((bt_V α c i ∨ (c = 0 ∧ i = b_nj σ)) ∨ (c = 7 ∧ i = 8 + b_nj σ)) := fun c i => Iff.rfl
  refine ⟨⟨Or.inl (Or.inl k1.1), Or.inl (Or.inl k1.2.1), Or.inl (Or.inl k1.2.2.1), Or.inl (Or.inl k1.2.2.2.1), Or.inl (Or.inl k1.2.2.2.2.1), Or.inl (Or.inl k1.2.2.2.2.2.1), Or.inl (Or.inl k1.2.2.2.2.2.2)⟩, fun n hn => ⟨Or.inl (Or.inl (k2 n hn).1), (k2 n hn).2⟩, fun m => ?_, fun j => ?_, fun i => ?_, fun n => ?_, ⟨⟨Or.inl (Or.inl k7.1.1), k7.1.2⟩, ⟨Or.inl (Or.inl k7.2.1.1), k7.2.1.2⟩, ⟨Or.inl (Or.inl k7.2.2.1.1), k7.2.2.1.2⟩, ⟨Or.inl (Or.inl k7.2.2.2.1.1), k7.2.2.2.1.2⟩, ⟨Or.inl (Or.inl k7.2.2.2.2.1), k7.2.2.2.2.2⟩⟩, ⟨fun i q => ?_, fun n q => ?_⟩⟩
  · rw [eV, k3, enm]; omega
  · rw [eV, k4, enj]; omega
  · rw [eV, k5]
    unfold v_op
    rw [enj]
    constructor
    · rintro ((h | h) | h)
      · exact ⟨by omega, by rw [enp _ (by omega)]; exact h.2⟩
      · omega
      · omega
    · rintro ⟨h1, h2⟩
      by_cases e : i / 4 = b_nj σ
      · rw [e, enp0] at h2; omega
      · rw [enp _ e] at h2
        exact Or.inl (Or.inl ⟨by omega, h2⟩)
  · rw [eV, k6, enm, enj]; omega
  · rw [eV] at q
    rcases q with (q | q) | q
    · exact k8.1 i q
    · omega
    · omega
  · rw [eV] at q
    rcases q with (q | q) | q
    · exact k8.2 n q
    · omega
    · omega
theorem z_oA (hV : z_V α σ) {q0 j : Nat} (hj : j < b_nj σ) (hp : b_np σ j < 4) (l8 : σ2.2.2 (8 + j) = σ.2.2 (8 + j) ++ [4 * j + b_np σ j]) (ll : ∀ n, n ≠ 8 + j → σ2.2.2 n = σ.2.2 n) : z_V (x_oA α (4 * j + b_np σ j) q0) σ2 := by
  obtain ⟨k1, k2, k3, k4, k5, k6, k7, k8⟩ := hV
  have enm : b_nm σ2 = b_nm σ := by unfold b_nm; rw [ll _ (by omega)]
  have enj : b_nj σ2 = b_nj σ := by unfold b_nj; rw [ll _ (by omega)]
  have enp : ∀ j', j' ≠ j → b_np σ2 j' = b_np σ j' := fun j' hj => by unfold b_np; rw [ll _ (by omega)]
  have enp0 : b_np σ2 j = b_np σ j + 1 := by
    unfold b_np
    rw [l8, List.length_append]
    rfl
  have eV : ∀ c i, bt_V (x_oA α (4 * j + b_np σ j) q0) c i ↔ (bt_V α c i ∨ (c = 2 ∧ i = 4 * j + b_np σ j)) := fun c i => Iff.rfl
  refine ⟨⟨Or.inl k1.1, Or.inl k1.2.1, Or.inl k1.2.2.1, Or.inl k1.2.2.2.1, Or.inl k1.2.2.2.2.1, Or.inl k1.2.2.2.2.2.1, Or.inl k1.2.2.2.2.2.2⟩, fun n hn => ⟨Or.inl (k2 n hn).1, (k2 n hn).2⟩, fun m => ?_, fun j => ?_, fun i => ?_, fun n => ?_, ⟨⟨Or.inl k7.1.1, k7.1.2⟩, ⟨Or.inl k7.2.1.1, k7.2.1.2⟩, ⟨Or.inl k7.2.2.1.1, k7.2.2.1.2⟩, ⟨Or.inl k7.2.2.2.1.1, k7.2.2.2.1.2⟩, ⟨Or.inl k7.2.2.2.2.1, k7.2.2.2.2.2⟩⟩, ⟨fun i q => ?_, fun n q => ?_⟩⟩
  · rw [eV, k3, enm]; omega
  · rw [eV, k4, enj]; omega
  · rw [eV, k5]
    unfold v_op
    rw [enj]
    constructor
    · rintro (h | h)
      · by_cases e : i / 4 = j
        · refine ⟨h.1, ?_⟩
          have := h.2
          rw [e] at this ⊢
          omega
        · exact ⟨h.1, by rw [enp _ e]; exact h.2⟩
      · have e : i / 4 = j := by omega
        exact ⟨by omega, by rw [e]; omega⟩
    · rintro ⟨h1, h2⟩
      by_cases e : i / 4 = j
      · rw [e] at h2
        by_cases e2 : i % 4 = b_np σ j
        · exact Or.inr ⟨rfl, by omega⟩
        · exact Or.inl ⟨h1, by rw [e]; omega⟩
      · rw [enp _ e] at h2
        exact Or.inl ⟨h1, h2⟩
  · rw [eV, k6, enm, enj]; omega
  · rw [eV] at q
    rcases q with q | q
    · exact k8.1 i q
    · omega
  · rw [eV] at q
    rcases q with q | q
    · exact k8.2 n q
    · omega
/-- a machine more: what stands and holds -/
theorem t_addM (hV : z_V α σ) (h : v_Inv σ x) (hL : u_L σ x) (hlt : b_nm σ < 4) :
    ∃ σ2 x2 : bt_X, (∀ q0 q, u_go G (x_mA α (b_nm σ) q0 q) (bt_lp (x_mS σ (b_nm σ)) 0 (σ.2.2 0 ++ [b_nm σ])) (x_mX x (b_nm σ)) σ2 x2 ∧ z_V (x_mA α (b_nm σ) q0 q) σ2 ∧ m_E α (x_mA α (b_nm σ) q0 q)) ∧ v_Inv σ2 x2 ∧ u_L σ2 x2 ∧ b_nm σ2 = b_nm σ + 1 ∧ b_nj σ2 = b_nj σ := by
  obtain ⟨σ1, hσ1⟩ : ∃ σ1, σ1 = bt_lp (x_mS σ (b_nm σ)) 0 (σ.2.2 0 ++ [b_nm σ]) := ⟨_, rfl⟩
  obtain ⟨x1, hx1⟩ : ∃ x1, x1 = x_mX x (b_nm σ) := ⟨_, rfl⟩
  obtain ⟨s1, s2, s3⟩ := s_addM (w := x_mX x (b_nm σ)) h hlt v_cX.refl v_rA.refl rfl
  have n1 : ∀ c i k, σ1.1 c i k = if c = 1 ∧ i = b_nm σ then (if k = 1 then nI 4 else nI 0) else σ.1 c i k := fun c i k => by rw [hσ1]; exact x_mS_1
  have l0 : σ1.2.2 0 = σ.2.2 0 ++ [b_nm σ] := by rw [hσ1]; exact bt_lp_at
  have ll : ∀ n, n ≠ 0 → σ1.2.2 n = σ.2.2 n := fun n hn => by rw [hσ1]; exact bt_lp_ne hn
  have m1 : ∀ c i k, c ≠ 1 → x1.1 c i k = x.1 c i k := fun c i k hc => by rw [hx1]; exact x_mX_1.trans (if_neg (by omega))
  rw [← hσ1, ← hx1] at s1 ⊢
  have hn : ¬ bt_V α 1 (b_nm σ) := fun z => by have := (hV.2.2.1 _).mp z; omega
  have hl : ¬ bt_V α 7 (4 + b_nm σ) := fun z => by have := (hV.2.2.2.2.2.1 _).mp z; omega
  have hZ : ∀ q0 q, z_V (x_mA α (b_nm σ) q0 q) σ1 := fun q0 q => z_mA hV hlt l0 ll
  have enm : b_nm σ1 = b_nm σ + 1 := by unfold b_nm; rw [l0, List.length_append]; rfl
  have enj : b_nj σ1 = b_nj σ := by unfold b_nj; rw [ll _ (by omega)]
  have enp : ∀ j, b_np σ1 j = b_np σ j := fun j => by unfold b_np; rw [ll _ (by omega)]
  have eop : ∀ i, v_op σ1 i ↔ v_op σ i := fun i => by unfold v_op; rw [enj, enp]
  refine ⟨u_pS σ1 (m_addM σ1 x1).2.1, u_pX x1 (m_addM σ1 x1).2.2, fun q0 q => ⟨u_go_p (hZ q0 q), (hZ q0 q).lists rfl, z_EA2 hn (by decide) hl (by decide) (by decide) (by decide)⟩, u_Inv_p s1 u_addM, ?_, enm, enj⟩
  obtain ⟨h1, h2, h3, h4, h5, h6⟩ := hL
  have eP : ∀ j, b_np (u_pS σ1 (m_addM σ1 x1).2.1) j = b_np σ j := enp
  have eJ : b_nj (u_pS σ1 (m_addM σ1 x1).2.1) = b_nj σ := enj
  have eO : ∀ i, v_op (u_pS σ1 (m_addM σ1 x1).2.1) i ↔ v_op σ i := eop
  refine ⟨fun j' hj' => ?_, fun j' hj' => ?_, fun j' hj' => ?_, fun i hi => ?_, fun m hm => ?_, fun i hi => ?_⟩
  · rw [u_pX_u (by omega), m1 _ _ _ (by omega), eJ, eP]; exact h1 j' hj'
  · rw [u_pX_u (by omega), m1 _ _ _ (by omega), eJ, u_pS_u (by omega), n1, if_neg (show ¬ (0 = 1 ∧ j' = b_nm σ) by omega)]; exact h2 j' hj'
  · rw [u_pX_u (by omega), m1 _ _ _ (by omega), u_pS_u (by omega), n1, if_neg (by omega)]; exact h3 j' (by rw [← eJ]; exact hj')
  · rw [u_pX_u (by omega), m1 _ _ _ (by omega), u_pS_u (by omega), n1, if_neg (by omega)]; exact h4 i ((eO i).mp hi)
  · have hm : m < b_nm σ1 := hm
    rw [u_pS_u (by omega), n1]
    by_cases e : m = b_nm σ
    · rw [if_pos ⟨rfl, e⟩, if_pos rfl]; exact ⟨4, rfl, by omega, by omega⟩
    · rw [if_neg (by omega)]; exact h5 m (by omega)
  · rw [u_pS_u (by omega), n1, if_neg (by omega)]; exact h6 i ((eO i).mp hi)
/-- a job more -/
theorem t_addJ (hV : z_V α σ) (h : v_Inv σ x) (hL : u_L σ x) (hlt : b_nj σ < 8) {d : Nat} (hd : d ≤ 10000) (hx : x.1 8 37 (b_nj σ) = nI d) :
    ∃ σ2 x2 : bt_X, (∀ q0 q, u_go G (x_jA α (b_nj σ) q0 q) (bt_lp (x_jS σ (b_nj σ) (nI d)) 1 (σ.2.2 1 ++ [b_nj σ])) (x_jX x (b_nj σ)) σ2 x2 ∧ z_V (x_jA α (b_nj σ) q0 q) σ2 ∧ m_E α (x_jA α (b_nj σ) q0 q)) ∧ v_Inv σ2 x2 ∧ u_L σ2 x2 ∧ b_nm σ2 = b_nm σ ∧ b_nj σ2 = b_nj σ + 1 := by
  obtain ⟨σ1, hσ1⟩ : ∃ σ1, σ1 = bt_lp (x_jS σ (b_nj σ) (nI d)) 1 (σ.2.2 1 ++ [b_nj σ]) := ⟨_, rfl⟩
  obtain ⟨x1, hx1⟩ : ∃ x1, x1 = x_jX x (b_nj σ) := ⟨_, rfl⟩
  obtain ⟨s1, s2, s3⟩ := s_addJ (due := nI d) (w := x_jX x (b_nj σ)) h (nI_pos (by omega)) (nI_le hd (by omega)) hlt v_cX.refl v_rA.refl rfl
  have n1 : ∀ c i k, σ1.1 c i k = if c = 0 ∧ i = b_nj σ then (if k = 0 then nI (b_nj σ) else if k = 1 then nI d else nI 0) else σ.1 c i k := fun c i k => by rw [hσ1]; exact x_jS_1
  have l1 : σ1.2.2 1 = σ.2.2 1 ++ [b_nj σ] := by rw [hσ1]; exact bt_lp_at
  have lr : σ1.2.2 (8 + b_nj σ) = [] := by
    rw [hσ1, bt_lp_ne (by omega)]
    exact bt_lp_at
  have ll : ∀ n, n ≠ 1 → n ≠ 8 + b_nj σ → σ1.2.2 n = σ.2.2 n := fun n h1 h2 => by
    rw [hσ1, bt_lp_ne h1]
    exact bt_lp_ne h2
  have m1 : ∀ c i k, c ≠ 0 → x1.1 c i k = x.1 c i k := fun c i k hc => by rw [hx1]; exact x_jX_1.trans (if_neg (by omega))
  rw [← hσ1, ← hx1] at s1 ⊢
  have hnm := u_nm4 h
  have hn : ¬ bt_V α 0 (b_nj σ) := fun z => by have := (hV.2.2.2.1 _).mp z; omega
  have hl : ¬ bt_V α 7 (8 + b_nj σ) := fun z => by have := (hV.2.2.2.2.2.1 _).mp z; omega
  have hZ : ∀ q0 q, z_V (x_jA α (b_nj σ) q0 q) σ1 := fun q0 q => z_jA hV l1 lr ll hnm
  have enm : b_nm σ1 = b_nm σ := by unfold b_nm; rw [ll _ (by omega) (by omega)]
  have enj : b_nj σ1 = b_nj σ + 1 := by unfold b_nj; rw [l1, List.length_append]; rfl
  have enp : ∀ j, j ≠ b_nj σ → b_np σ1 j = b_np σ j := fun j hj => by unfold b_np; rw [ll _ (by omega) (by omega)]
  have enp0 : b_np σ1 (b_nj σ) = 0 := by unfold b_np; rw [lr]; rfl
  have eop : ∀ i, v_op σ1 i → v_op σ i := fun i hi => by
    obtain ⟨i1, i2⟩ := hi
    rw [enj] at i1
    by_cases e : i / 4 = b_nj σ
    · rw [e, enp0] at i2; omega
    · rw [enp _ e] at i2; exact ⟨by omega, i2⟩
  refine ⟨u_pS σ1 (m_addJ σ1 x1 (nI d)).2.1, u_pX x1 (m_addJ σ1 x1 (nI d)).2.2, fun q0 q => ⟨u_go_p (hZ q0 q), (hZ q0 q).lists rfl, z_EA2 hn (by decide) hl (by decide) (by decide) (by decide)⟩, u_Inv_p s1 u_addJ, ?_, enm, enj⟩
  obtain ⟨h1, h2, h3, h4, h5, h6⟩ := hL
  have eP : ∀ j, j ≠ b_nj σ → b_np (u_pS σ1 (m_addJ σ1 x1 (nI d)).2.1) j = b_np σ j := enp
  have eP0 : b_np (u_pS σ1 (m_addJ σ1 x1 (nI d)).2.1) (b_nj σ) = 0 := enp0
  have eJ : b_nj (u_pS σ1 (m_addJ σ1 x1 (nI d)).2.1) = b_nj σ + 1 := enj
  have eO : ∀ i, v_op (u_pS σ1 (m_addJ σ1 x1 (nI d)).2.1) i → v_op σ i := eop
  refine ⟨fun j' hj' => ?_, fun j' hj' => ?_, fun j' hj' => ?_, fun i hi => ?_, fun m hm => ?_, fun i hi => ?_⟩
  · rw [u_pX_u (by omega), m1 _ _ _ (by omega), eJ, h1 j' hj']
    by_cases e : j' = b_nj σ
    · rw [e, if_neg (by omega), if_pos (by omega), eP0]
    · rw [eP _ e]
      by_cases e2 : j' < b_nj σ
      · rw [if_pos e2, if_pos (by omega)]
      · rw [if_neg e2, if_neg (by omega)]
  · rw [u_pX_u (by omega), m1 _ _ _ (by omega), eJ, u_pS_u (by omega), n1, h2 j' hj']
    by_cases e : j' = b_nj σ
    · rw [e, if_neg (by omega), if_pos (by omega), if_pos ⟨rfl, rfl⟩, if_neg (by omega), if_neg (by omega)]
    · rw [if_neg (show ¬ (0 = 0 ∧ j' = b_nj σ) by omega)]
      by_cases e2 : j' < b_nj σ
      · rw [if_pos e2, if_pos (by omega)]
      · rw [if_neg e2, if_neg (by omega)]
  · rw [eJ] at hj'
    rw [u_pX_u (by omega), m1 _ _ _ (by omega), u_pS_u (by omega), n1]
    by_cases e : j' = b_nj σ
    · rw [e, if_pos ⟨rfl, rfl⟩, if_neg (by omega), if_pos rfl]; exact hx
    · rw [if_neg (by omega)]; exact h3 j' (by omega)
  · have hi2 := eO i hi
    rw [u_pX_u (by omega), m1 _ _ _ (by omega), u_pS_u (by omega), n1, if_neg (by omega)]; exact h4 i hi2
  · rw [u_pS_u (by omega), n1, if_neg (by omega)]; exact h5 m (by rw [← enm]; exact hm)
  · have hi2 := eO i hi
    rw [u_pS_u (by omega), n1, if_neg (by omega)]; exact h6 i hi2
/-- an operation more: nothing keeps it out -/
theorem u_addE (h : v_Inv σ x) (hL : u_L σ x) {j m l F T : Nat} (hj : j < b_nj σ) (hm : m < b_nm σ) (hp : σ.1 0 j 3 = nI 0) (hn : b_np σ j < 4) (hl1 : 1 ≤ l) (hl2 : l ≤ 200) (hF : F < 4) (hT : T < 256) (hT2 : v_pc T ≤ 2) :
    b_addE σ (nI j) (nI m) (nI l) (nI F) (nI T) = none := by
  have := u_nj8 h
  have := u_nm4 h
  obtain ⟨c, c1, c2, c3⟩ := hL.2.2.2.2.1 m hm
  unfold b_addE
  rw [u_ix hj (by omega)]
  simp only []
  rw [u_ix hm (by omega)]
  simp only []
  rw [if_neg (nI_nlt hl1 (by omega)), if_pos (nI_le hl2 (by omega)), if_neg (nI_pos (by omega)), if_pos (nI_lt hF (by omega)), if_neg (nI_pos (by omega)), if_pos (nI_le (by omega) (by omega)), if_pos (nI_lt hn (by omega)), if_pos (show σ.1 0 j 3 = 0 from hp), v_bc256 T hT, c1, if_pos (nI_le (by omega) (by omega))]
theorem t_addO (hV : z_V α σ) (h : v_Inv σ x) (hL : u_L σ x) {j m l F T : Nat} (hj : j < b_nj σ) (hm : m < b_nm σ) (hp : σ.1 0 j 3 = nI 0) (hn : b_np σ j < 4) (hl1 : 1 ≤ l) (hl2 : l ≤ 200) (hF : F < 4) (hT : T < 256) (hT2 : v_pc T ≤ 2) (hx : x.1 8 38 (4 * j + b_np σ j) = nI l) :
    ∃ σ2 x2 : bt_X, (∀ q0, u_go G (x_oA α (4 * j + b_np σ j) q0) (b_apS σ j (b_np σ j) m (nI l) (nI F) (nI T)) (x_oX x (4 * j + b_np σ j)) σ2 x2 ∧ z_V (x_oA α (4 * j + b_np σ j) q0) σ2 ∧ m_E α (x_oA α (4 * j + b_np σ j) q0)) ∧ v_Inv σ2 x2 ∧ u_L σ2 (bt_gs x2 8 35 j (nI (b_np σ j + 1))) ∧ b_nm σ2 = b_nm σ ∧ b_nj σ2 = b_nj σ ∧ x2.1 8 35 j = nI (b_np σ j) := by
  have hnj := u_nj8 h
  have hnm := u_nm4 h
  have hE := u_addE h hL hj hm hp hn hl1 hl2 hF hT hT2
  obtain ⟨n, hnd⟩ : ∃ n, n = b_np σ j := ⟨_, rfl⟩
  obtain ⟨s1, s2, s3⟩ := s_addO (w := x_oX x (4 * j + b_np σ j)) h hE (u_ix hj (by omega)) (u_ix hm (by omega)) v_cX.refl v_rA.refl rfl
  rw [← hnd] at s1 hn hx ⊢
  obtain ⟨σ1, hσ1⟩ : ∃ σ1, σ1 = b_apS σ j n m (nI l) (nI F) (nI T) := ⟨_, rfl⟩
  obtain ⟨x1, hx1⟩ : ∃ x1, x1 = x_oX x (4 * j + n) := ⟨_, rfl⟩
  have n1 : ∀ c i k, σ1.1 c i k = if c = 1 ∧ i = m ∧ k = 2 then b_max ((x_oS σ (4 * j + n) m (nI n) (nI l) (nI F) (nI T)).1 1 m 2) (b_bc (nI T)) else if c = 2 ∧ i = 4 * j + n then (if k = 1 then nI n else if k = 3 then nI l else if k = 4 then nI F else if k = 5 then nI T else nI 0) else σ.1 c i k := fun c i k => by rw [hσ1]; exact b_apS_1
  have l8 : σ1.2.2 (8 + j) = σ.2.2 (8 + j) ++ [4 * j + n] := by rw [hσ1, b_apS_l, if_pos rfl]
  have ll : ∀ k, k ≠ 8 + j → σ1.2.2 k = σ.2.2 k := fun k hk => by rw [hσ1, b_apS_l, if_neg hk]
  have m1 : ∀ c i k, c ≠ 2 → x1.1 c i k = x.1 c i k := fun c i k hc => by rw [hx1]; exact x_oX_1.trans (if_neg (by omega))
  rw [← hσ1, ← hx1] at s1 ⊢
  have hV2 : ¬ bt_V α 2 (4 * j + n) := fun z => by
    have := (hV.2.2.2.2.1 _).mp z
    have h2 := this.2
    rw [show (4 * j + n) / 4 = j by omega] at h2
    omega
  have hZ : ∀ q0, z_V (x_oA α (4 * j + n) q0) σ1 := fun q0 => by
    have := z_oA (q0 := q0) (σ2 := σ1) hV hj (by omega) (by rw [← hnd]; exact l8) ll
    rw [← hnd] at this
    exact this
  have enm : b_nm σ1 = b_nm σ := by unfold b_nm; rw [ll _ (by omega)]
  have enj : b_nj σ1 = b_nj σ := by unfold b_nj; rw [ll _ (by omega)]
  have enp : ∀ j', j' ≠ j → b_np σ1 j' = b_np σ j' := fun j' hj => by unfold b_np; rw [ll _ (by omega)]
  have enp0 : b_np σ1 j = n + 1 := by
    have : b_np σ1 j = b_np σ j + 1 := by
      unfold b_np
      rw [l8, List.length_append]
      rfl
    omega
  have eop : ∀ i, v_op σ1 i → v_op σ i ∨ i = 4 * j + n := fun i hi => by
    obtain ⟨i1, i2⟩ := hi
    rw [enj] at i1
    by_cases e : i / 4 = j
    · rw [e, enp0] at i2
      by_cases e2 : i % 4 = n
      · exact Or.inr (by omega)
      · exact Or.inl ⟨i1, by rw [e, ← hnd]; omega⟩
    · rw [enp _ e] at i2; exact Or.inl ⟨i1, i2⟩
  have enp4 : ∀ i, v_op σ i → i ≠ 4 * j + n := fun i hi e => by
    have h2 := hi.2
    rw [e, show (4 * j + n) / 4 = j by omega] at h2
    omega
  obtain ⟨σ2, hσ2⟩ : ∃ σ2, σ2 = u_pS σ1 (m_addO σ1 x1 (nI j) (nI m) (nI l) (nI F) (nI T)).2.1 := ⟨_, rfl⟩
  obtain ⟨x2, hx2⟩ : ∃ x2, x2 = u_pX x1 (m_addO σ1 x1 (nI j) (nI m) (nI l) (nI F) (nI T)).2.2 := ⟨_, rfl⟩
  have eS : ∀ c i k, ¬ (c = 6 ∨ (c = 8 ∧ 10 ≤ i)) → σ2.1 c i k = σ1.1 c i k := fun c i k hc => by rw [hσ2]; exact u_pS_u hc
  have eX : ∀ i k, 35 ≤ i → x2.1 8 i k = x.1 8 i k := fun i k hi => by rw [hx2, u_pX_u (by omega), m1 _ _ _ (by omega)]
  have eP : ∀ j', j' ≠ j → b_np σ2 j' = b_np σ j' := by rw [hσ2]; exact enp
  have eP0 : b_np σ2 j = n + 1 := by rw [hσ2]; exact enp0
  have eJ : b_nj σ2 = b_nj σ := by rw [hσ2]; exact enj
  have eM : b_nm σ2 = b_nm σ := by rw [hσ2]; exact enm
  have eO : ∀ i, v_op σ2 i → v_op σ i ∨ i = 4 * j + n := by rw [hσ2]; exact eop
  obtain ⟨h1, h2, h3, h4, h5, h6⟩ := hL
  have h35 : x2.1 8 35 j = nI n := by rw [eX _ _ (by omega), h1 j (by omega), if_pos hj, hnd]
  refine ⟨σ2, x2, fun q0 => ⟨by rw [hσ2, hx2]; exact u_go_p (hZ q0), by rw [hσ2]; exact (hZ q0).lists rfl, z_EA hV2 (by decide) (by decide)⟩, by rw [hσ2, hx2]; exact u_Inv_p s1 u_addO, ?_, eM, eJ, h35⟩
  refine ⟨fun j' hj' => ?_, fun j' hj' => ?_, fun j' hj' => ?_, fun i hi => ?_, fun m' hm' => ?_, fun i hi => ?_⟩
  · rw [eJ]
    by_cases e : j' = j
    · rw [e, b_gs_at, if_pos hj, eP0]
    · rw [b_gs_ne (by omega), eX _ _ (by omega), eP _ e]; exact h1 j' hj'
  · rw [b_gs_ne (by omega), eX _ _ (by omega), eJ, eS _ _ _ (by omega), n1, if_neg (show ¬ (0 = 1 ∧ j' = m ∧ 3 = 2) by omega), if_neg (show ¬ (0 = 2 ∧ j' = 4 * j + n) by omega)]; exact h2 j' hj'
  · rw [b_gs_ne (by omega), eX _ _ (by omega), eS _ _ _ (by omega), n1, if_neg (by omega), if_neg (by omega)]; exact h3 j' (by rw [← eJ]; exact hj')
  · rw [b_gs_ne (by omega), eX _ _ (by omega), eS _ _ _ (by omega), n1, if_neg (by omega)]
    rcases eO i hi with q | q
    · rw [if_neg (fun z => enp4 i q z.2)]; exact h4 i q
    · rw [if_pos ⟨rfl, q⟩, if_neg (by omega), if_pos rfl, q]; exact hx
  · rw [eS _ _ _ (by omega), n1, if_neg (by omega), if_neg (by omega)]; exact h5 m' (by rw [← eM]; exact hm')
  · rw [eS _ _ _ (by omega), n1, if_neg (by omega)]
    rcases eO i hi with q | q
    · rw [if_neg (fun z => enp4 i q z.2)]; exact h6 i q
    · rw [if_pos ⟨rfl, q⟩, if_neg (by omega), if_neg (by omega), if_neg (by omega), if_pos rfl, show nN (nI T) = T from nI_clamp (by omega)]
      exact hT2
end UN
