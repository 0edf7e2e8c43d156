/-! ===== setMagazine ===== -/
section VX
variable {σ σ1 σ2 x w : bt_X}
theorem v_cnt256 : ∀ s, s < 256 → m_cnt (nI s) 8 0 (nI 0) = nI (v_pc s) := by decide +kernel
theorem v_bc256 : ∀ s, s < 256 → b_bc (nI s) = nI (v_pc s) := by decide +kernel
theorem v_count {s : Nat} (h : s < 256) : m_count (nI s) = nI (v_pc s) := by
  unfold m_count
  rw [m_8_e]
  exact v_cnt256 s h
theorem v_pc8 (s : Nat) : v_pc s ≤ 8 := by unfold v_pc; omega
/-- one of a machine's operations needs more -/
theorem v_sml2 (h : v_Inv σ x) {m c : Nat} (hm : m < b_nm σ) (hc : c ≤ 8) : ∀ (n p : Nat) (y : bt_X), n + p = 32 → (y.1 6 0 0 = nI 0 ∨ y.1 6 0 0 = nI 3) →
    (m_sml2 σ m (nI c) n p y).1 6 0 0 = nI 0 ∧ (y.1 6 0 0 = nI 0 ∧ ∀ i, p ≤ i → v_op σ i → b_m σ i = m → v_pc (nN (σ.1 2 i 5)) ≤ c) ∨
    (m_sml2 σ m (nI c) n p y).1 6 0 0 = nI 3 ∧ (y.1 6 0 0 = nI 3 ∨ ∃ i, v_op σ i ∧ b_m σ i = m ∧ ¬ v_pc (nN (σ.1 2 i 5)) ≤ c) := by
  have hSt := h.1.1.1
  obtain ⟨-, rj, rp, ro, -, -, -⟩ := h.2.2.1
  have hj8 : b_nj σ ≤ 8 := hSt.2.2.2.1
  intro n
  induction n with
  | zero =>
    intro p y hp hy
    rcases hy with hy | hy
    · exact Or.inl ⟨hy, hy, fun i hi hop _ => by have := v_op32 hSt hop; omega⟩
    · exact Or.inr ⟨hy, Or.inl hy⟩
  | succ n ih =>
    intro p y hp hy
    unfold m_sml2
    have hone : (m_one σ p = nI 1 ∧ v_op σ p) ∨ (m_one σ p = nI 0 ∧ ¬ v_op σ p) := by
      unfold m_one v_op
      rw [rj]
      by_cases c1 : p / 4 < b_nj σ
      · have e := rp (p / 4) (by omega)
        rw [if_pos c1] at e
        have hp4 := (hSt.2.2.2.2 _ c1).2
        rw [if_neg (nI_ge c1 (by omega)), e]
        by_cases c2 : p % 4 < b_np σ (p / 4)
        · exact Or.inl ⟨if_neg (nI_ge c2 (by omega)), c1, c2⟩
        · exact Or.inr ⟨if_pos (nI_le (by omega) (by omega)), fun q => c2 q.2⟩
      · exact Or.inr ⟨if_pos (nI_le (by omega) (by omega)), fun q => c1 q.1⟩
    have hsv : ((v_op σ p ∧ b_m σ p = m ∧ ¬ v_pc (nN (σ.1 2 p 5)) ≤ c) → m_sv σ m (nI c) p (m_one σ p) (y.1 6 0 0) = nI 3) ∧ (¬ (v_op σ p ∧ b_m σ p = m ∧ ¬ v_pc (nN (σ.1 2 p 5)) ≤ c) → m_sv σ m (nI c) p (m_one σ p) (y.1 6 0 0) = y.1 6 0 0) := by
      rcases hone with ⟨q, hop⟩ | ⟨q, hop⟩
      · unfold m_sv
        rw [q, if_neg (show ¬ nI 1 = 0 by decide)]
        obtain ⟨o1, o2, o3, o4⟩ := ro p hop
        obtain ⟨k1, k2⟩ := (h.1.1.2.1 p hop).2.2.2.2.2.2
        have e21 : σ.1 8 21 p = nI (b_m σ p) := by
          have := (h.2.1.2.1 p (by omega)).1.e
          rw [this]
          exact congrArg nI o1
        have hbm4 : b_m σ p < 4 := by
          have := (h.2.1.2.1 p (by omega)).1.l
          have e : m_mc σ p = nN (σ.1 8 21 p) := rfl
          omega
        have hm4 : m < 4 := by have := hSt.2.1; omega
        rw [e21, o4]
        by_cases c1 : b_m σ p = m
        · rw [if_pos (by rw [c1])]
          rw [k1, v_count k2, show nN (nI (nN (σ.1 2 p 5))) = nN (σ.1 2 p 5) from nI_clamp (by omega)]
          have := v_pc8 (nN (σ.1 2 p 5))
          by_cases c2 : v_pc (nN (σ.1 2 p 5)) ≤ c
          · rw [if_pos (nI_le c2 (by omega))]
            exact ⟨fun z => absurd c2 z.2.2, fun _ => rfl⟩
          · rw [if_neg (nI_ge (by omega) (by omega))]
            exact ⟨fun _ => rfl, fun z => absurd ⟨hop, c1, c2⟩ z⟩
        · rw [if_neg (fun z => c1 ((nI_eq (by omega) (by omega)).mp z))]
          exact ⟨fun z => absurd z.2.1 c1, fun _ => rfl⟩
      · unfold m_sv
        rw [q, if_pos (show nI 0 = 0 from rfl)]
        exact ⟨fun z => absurd z.1 hop, fun _ => rfl⟩
    have et : (m_thr y (m_sv σ m (nI c) p (m_one σ p) (y.1 6 0 0))).1 6 0 0 = m_sv σ m (nI c) p (m_one σ p) (y.1 6 0 0) := m_thr_at
    by_cases d : v_op σ p ∧ b_m σ p = m ∧ ¬ v_pc (nN (σ.1 2 p 5)) ≤ c
    · rw [hsv.1 d] at et ⊢
      rcases ih (p + 1) _ (by omega) (Or.inr et) with ⟨-, q2, -⟩ | ⟨q1, q2⟩
      · rw [et] at q2; exact absurd q2 (by decide)
      · exact Or.inr ⟨q1, Or.inr ⟨p, d⟩⟩
    · rw [hsv.2 d] at et ⊢
      rcases ih (p + 1) _ (by omega) (by rw [et]; exact hy) with ⟨q1, q2, q3⟩ | ⟨q1, q2⟩
      · rw [et] at q2
        refine Or.inl ⟨q1, q2, fun i hi hop hbm => ?_⟩
        rcases Nat.lt_or_ge p i with e | e
        · exact q3 i (by omega) hop hbm
        · have : i = p := by omega
          subst this
          exact Decidable.byContradiction fun z => d ⟨hop, hbm, z⟩
      · rw [et] at q2
        exact Or.inr ⟨q1, q2⟩
theorem v_smx2 {m : Nat} {c : Int32} {s : bt_X} : (m_smx σ s m c).2 = s.2 := by
  have h : ∀ (n p : Nat) (y : bt_X), (m_sml2 σ m c n p y).2 = y.2 := by
    intro n
    induction n with
    | zero => intro p y; rfl
    | succ n ih => intro p y; exact ih _ _
  exact h _ _ _
theorem s_setMag (h : v_Inv σ x) {a c : Int32} (hX : v_cX (b_setMag σ x a c).2.2 w) (hr : v_rA (b_setMag σ x a c).2.2 w) : v_Ok (b_setMag σ x a c) z_setMagazine (m_setMag (b_setMag σ x a c).2.1 w a c) := by
  have thr : ∀ {E : String} {k : Int32}, b_setMag σ x a c = (.inr E, σ, x) → k = z_setMagazine (.inr E) → m_setMag σ w a c = (nI 0, σ, m_thr w k) → v_Ok (b_setMag σ x a c) z_setMagazine (m_setMag (b_setMag σ x a c).2.1 w a c) := fun e1 e2 e3 => by
    rw [e1] at hX hr ⊢
    rw [show m_setMag ((Sum.inr _, σ, x) : b_R).2.1 w a c = _ from e3]
    exact (h.go hX hr).thrOk e2 (fun u q => by cases q)
  cases e : b_ix (b_nm σ) a with
  | none => exact thr (E := b_IO) (k := nI 1) (by unfold b_setMag; rw [e]) rfl (by unfold m_setMag; rw [v_nm h, e])
  | some m =>
    obtain ⟨-, hm⟩ := v_ixe (by have := v_nm5 h; omega) e
    have em : ∀ s, b_nm s = b_nm σ → m_nm s = m_nm σ → m_setMag s w a c = if m_in c (nI 1) (nI 8) = 0 then (nI 0, s, m_thr w (nI 2)) else
        if (m_smx s w m c).1 6 0 0 ≤ 0 then (s.1 8 12 m, bt_gs s 8 12 m c, m_smx s w m c) else (nI 0, s, m_smx s w m c) := fun s e1 e2 => by
      unfold m_setMag
      rw [e2, v_nm h, e]
    by_cases c1 : c < nI 1
    · exact thr (E := b_IA) (k := nI 2) (by unfold b_setMag; rw [e]; exact if_pos c1) rfl ((em σ rfl rfl).trans (if_pos (by unfold m_in; rw [if_pos c1]; rfl)))
    by_cases c2 : c ≤ nI 8
    · have n0 : ¬ m_in c (nI 1) (nI 8) = 0 := by
        unfold m_in
        rw [if_neg c1, if_neg (Int32.not_lt.mpr c2)]
        decide
      have c0 : ¬ c < 0 := fun z => c1 (Int32.lt_trans z (by decide))
      obtain ⟨C, e1, e2⟩ := v_nI c0 c2 (by decide)
      subst e1
      have hC1 : 1 ≤ C := Nat.le_of_not_lt (fun z => c1 (nI_lt z (by decide)))
      obtain ⟨cc, t, q1, q2, q3, q4, q5, q6, q7⟩ := h.1.1.2.2.2.2.2 m hm
      by_cases c3 : σ.1 1 m 2 ≤ nI C
      · -- it is set
        have htC : t ≤ C := by rw [q4] at c3; exact (nI_leI (by omega) (by omega)).mp c3
        obtain ⟨σ1, hσ1⟩ : ∃ σ1, σ1 = bt_gs σ 1 m 1 (nI C) := ⟨_, rfl⟩
        have eF : b_setMag σ x a (nI C) = (.inl (some (.int (σ.1 1 m 1))), σ1, x) := by
          subst hσ1
          unfold b_setMag
          rw [e]
          exact (if_neg c1).trans ((if_pos c2).trans (if_pos c3))
        rw [eF] at hX hr ⊢
        have e12 : σ1.2 = σ.2 := by subst hσ1; rfl
        have e1n : ∀ c i k, ¬ (c = 1 ∧ i = m ∧ k = 1) → σ1.1 c i k = σ.1 c i k := fun c i k hc => by subst hσ1; rw [b_gs_ne (by omega)]
        have v1 : σ1.1 1 m 1 = nI C := by subst hσ1; rw [b_gs_at]
        have hI : v_IS σ1 := h.1.1.mach (m := m) ⟨e12, fun c i k hc => e1n c i k (by omega)⟩ (by
          rw [e1n 1 m 3 (by omega), e1n 1 m 4 (by omega), e1n 1 m 5 (by omega)]
          exact h.1.1.2.2.1 m hm) (fun _ => ⟨C, t, v1, hC1, e2, by rw [e1n 1 m 2 (by omega)]; exact q4, htC, q6, q7⟩)
        have hA1 : v_IC σ1 x := by
          have hW : v_W σ1 x := h.1.2.1.congr e12 rfl (fun _ _ => rfl)
          refine ⟨hI, hW, h.1.2.2.1.congr e12, h.1.2.2.2.1.congr e12 (fun j => e1n 0 j 3 (by omega)), ?_, fun m' hm' i hi => h.1.2.2.2.2.2 m' (by unfold b_nm at hm' ⊢; rw [e12] at hm'; exact hm') i hi⟩
          obtain ⟨d1, d2, d3, d4, d5, d6, d7⟩ := h.1.2.2.2.2.1
          have enm : b_nm σ1 = b_nm σ := by unfold b_nm; rw [e12]
          have enj : b_nj σ1 = b_nj σ := by unfold b_nj; rw [e12]
          refine ⟨fun m' hm' => d1 m' (by rw [← enm]; exact hm'), fun j hj => d2 j (by rw [← enj]; exact hj), d3, fun i hi => by rw [enm]; exact d4 i hi, fun n i hn a' ha' => d5 n i hn a' (by rw [e12] at ha'; exact ha'), fun i hi => ?_, d7⟩
          have ebm : b_m σ1 i = b_m σ i := by unfold b_m; rw [e12]
          have els : ∀ r l, b_ls σ1 (b_m σ i) r l = b_ls σ (b_m σ i) r l := fun r l => by unfold b_ls b_isB; rw [e1n 1 _ 3 (by omega), e1n 1 _ 4 (by omega), e1n 1 _ 5 (by omega)]
          have efn : ∀ u, b_fn σ1 u = b_fn σ u := fun u => by unfold b_fn; rw [e1n 2 u 4 (by omega)]
          have ebt : ∀ b u, b_bet σ1 b u = b_bet σ b u := fun b u => by
            unfold b_bet
            cases b with
            | none => show σ1.1 8 _ _ = σ.1 8 _ _; rw [efn, e1n 8 _ _ (by omega)]
            | some v => show σ1.1 8 _ _ = σ.1 8 _ _; rw [efn, efn, e1n 8 _ _ (by omega)]
          rw [ebm, els, e1n 2 i 3 (by omega), show b_rdy σ1 x i = b_rdy σ x i by unfold b_rdy; rw [ebt, e12]]
          exact d6 i hi
        obtain ⟨σ2, hσ2⟩ : ∃ σ2, σ2 = bt_gs σ1 8 12 m (nI C) := ⟨_, rfl⟩
        have n2' : ∀ c i k, ¬ (c = 8 ∧ i = 12 ∧ k = m) → σ2.1 c i k = σ1.1 c i k := fun c i k hc => by subst hσ2; rw [b_gs_ne (by omega)]
        have v12 : σ2.1 8 12 m = nI C := by subst hσ2; rw [b_gs_at]
        have hcA : v_cA σ1 σ2 := ⟨by subst hσ2; rfl, fun c i k hc => n2' c i k (by omega)⟩
        obtain ⟨hR, hRs⟩ := v_RR (σ2 := σ2) h (hcA.1.trans e12) (fun c i k hc => by rw [n2' c i k (by omega), e1n c i k (by omega)]) (fun m' hm' => by
          rw [n2' 1 m' 1 (by omega), n2' 1 m' 3 (by omega), n2' 1 m' 4 (by omega), n2' 1 m' 5 (by omega), n2' 8 13 m' (by omega), n2' 8 14 m' (by omega), e1n 8 13 m' (by omega), e1n 8 14 m' (by omega), e1n 1 m' 3 (by omega), e1n 1 m' 4 (by omega), e1n 1 m' 5 (by omega)]
          refine ⟨?_, (h.2.2.1.2.2.2.2.1 m' hm').2⟩
          by_cases em' : m' = m
          · subst em'; rw [v12, v1]
          · rw [n2' 8 12 m' (by omega), e1n 8 12 m' (by omega), e1n 1 m' 1 (by omega)]
            exact (h.2.2.1.2.2.2.2.1 m' hm').1) (fun f' g' hf hg => by
          rw [n2' 8 25 _ (by omega), e1n 8 25 _ (by omega), n2' 8 _ g' (by omega), e1n 8 _ g' (by omega)]
          exact h.2.2.1.2.2.2.2.2.1 f' g' hf hg) (fun m' r1 r2 => by
          rw [n2' 8 13 m' (by omega), n2' 8 14 m' (by omega), e1n 8 13 m' (by omega), e1n 8 14 m' (by omega)]
          exact h.2.1.2.2.2.1 m' r1 r2) (fun j hj => by
          rw [n2' 8 18 j (by omega), n2' 8 20 j (by omega), n2' 0 j 1 (by omega), n2' 0 j 3 (by omega), e1n 8 18 j (by omega), e1n 8 20 j (by omega), e1n 0 j 1 (by omega), e1n 0 j 3 (by omega)]
          exact h.2.2.1.2.2.2.2.2.2 j hj) (fun j r1 r2 => by
          rw [n2' 8 20 j (by omega), e1n 8 20 j (by omega)]
          exact h.2.1.2.2.2.2 j r1 r2)
        have enm : b_nm σ1 = b_nm σ := by unfold b_nm; rw [e12]
        have I2 : v_Inv σ2 w := by
          refine ⟨hA1.congr hcA hX, hR, hRs, ?_⟩
          have hRd : v_Rd σ w w := h.2.2.2.ext (fun m _ => hX.2.1 _ (by omega)) (fun i k hi => hr 8 i k (by omega))
          have enm2 : b_nm σ2 = b_nm σ := by unfold b_nm; rw [hcA.1, e12]
          unfold v_Rd at hRd ⊢
          rw [enm2]
          exact hRd
        have enm1 : m_nm σ1 = m_nm σ := by unfold m_nm; rw [e1n 6 0 1 (by omega)]
        -- the loop of σ1 is that of σ
        have esm : m_smx σ1 w m (nI C) = m_smx σ w m (nI C) := by
          have key : ∀ (n p : Nat) (y : bt_X), m_sml2 σ1 m (nI C) n p y = m_sml2 σ m (nI C) n p y := by
            intro n
            induction n with
            | zero => intro p y; rfl
            | succ n ih =>
              intro p y
              unfold m_sml2
              have e1 : m_one σ1 p = m_one σ p := by unfold m_one m_nj m_np; rw [e1n 6 0 7 (by omega), e1n 8 19 _ (by omega)]
              have e3 : ∀ v t, m_sv σ1 m (nI C) p v t = m_sv σ m (nI C) p v t := fun v t => by unfold m_sv; rw [e1n 8 21 p (by omega), e1n 8 24 p (by omega)]
              rw [e1, e3, ih]
          exact key _ _ _
        have ht0 : (m_smx σ w m (nI C)).1 6 0 0 = nI 0 := by
          rcases v_sml2 h hm e2 m_32 0 (m_thr w (nI 0)) m_32_e (Or.inl m_thr_at) with ⟨r1, -⟩ | ⟨-, r2⟩
          · exact r1
          · rcases r2 with r2 | ⟨i, r2, r3, r4⟩
            · rw [m_thr_at] at r2; exact absurd r2 (by decide)
            · exact absurd (Nat.le_trans (q6 i r2 r3) htC) r4
        rw [show m_setMag ((Sum.inl (some (Value.int (σ.1 1 m 1))), σ1, x) : b_R).2.1 w a (nI C) = (σ1.1 8 12 m, σ2, m_smx σ w m (nI C)) by
          rw [show ((Sum.inl (some (Value.int (σ.1 1 m 1))), σ1, x) : b_R).2.1 = σ1 from rfl, em σ1 enm enm1, if_neg n0, esm, ht0, if_pos (show nI 0 ≤ 0 by decide), hσ2]]
        refine ⟨I2.mv ⟨by rw [v_smx2], fun _ _ => by rw [v_smx2], fun c i k hc _ => m_smx_n (by omega)⟩ (fun i k hi => m_smx_n (by omega)), ht0, fun u hu => ?_⟩
        cases hu
        show σ1.1 8 12 m = σ.1 1 m 1
        rw [e1n 8 12 m (by omega)]
        exact (h.2.2.1.2.2.2.2.1 m hm).1
      · -- an operation needs more
        have htC : ¬ t ≤ C := fun z => c3 (by rw [q4]; exact nI_le z (by omega))
        have eF : b_setMag σ x a (nI C) = (.inr b_IS, σ, x) := by
          unfold b_setMag
          rw [e]
          exact (if_neg c1).trans ((if_pos c2).trans (if_neg c3))
        rw [eF] at hX hr ⊢
        have hw := h.go hX hr
        have ht3 : (m_smx σ w m (nI C)).1 6 0 0 = nI 3 := by
          rcases v_sml2 h hm e2 m_32 0 (m_thr w (nI 0)) m_32_e (Or.inl m_thr_at) with ⟨-, -, r3⟩ | ⟨r1, -⟩
          · rcases q7 with q7 | ⟨i, r1, r2, r4⟩
            · omega
            · have := r3 i (Nat.zero_le _) r1 r2
              omega
          · exact r1
        rw [show m_setMag ((Sum.inr b_IS, σ, x) : b_R).2.1 w a (nI C) = (nI 0, σ, m_smx σ w m (nI C)) by
          rw [show ((Sum.inr b_IS, σ, x) : b_R).2.1 = σ from rfl, em σ rfl rfl, if_neg n0, ht3, if_neg (show ¬ nI 3 ≤ 0 by decide)]]
        exact ⟨hw.mv ⟨by rw [v_smx2], fun _ _ => by rw [v_smx2], fun c i k hc _ => m_smx_n (by omega)⟩ (fun i k hi => m_smx_n (by omega)), ht3, fun u hu => by cases hu⟩
    · exact thr (E := b_IA) (k := nI 2) (by unfold b_setMag; rw [e]; exact (if_neg c1).trans (if_neg c2)) rfl ((em σ rfl rfl).trans (if_pos (by unfold m_in; rw [if_neg c1, if_pos (Int32.not_le.mp c2)]; rfl)))
end VX

