/-! ===== repair, setSetup, setMagazine ===== -/
section VK
variable {σ σ1 σ2 x w : bt_X}
theorem s_rep (h : v_Inv σ x) {a : Int32} (hX : v_cX (b_rep σ x a).2.2 w) (hr : v_rA (b_rep σ x a).2.2 w) : v_Ok (b_rep σ x a) z_repair (m_rep (b_rep σ x a).2.1 w a) ∧ ∀ u, z_f (b_rep σ x a).1 = .inl u → u = nI 0 ∨ u = nI 1 := by
  cases e : b_ix (b_nm σ) a with
  | none =>
    have eF : b_rep σ x a = (.inr b_IO, σ, x) := by unfold b_rep; rw [e]
    rw [eF] at hX hr ⊢
    have em : m_rep ((Sum.inr b_IO, σ, x) : b_R).2.1 w a = (nI 0, σ, m_thr w (nI 1)) := by unfold m_rep; rw [v_nm h, e]
    rw [em]
    exact ⟨(h.go hX hr).thrOk rfl (fun u q => by cases q), fun u q => by cases q⟩
  | some m =>
    obtain ⟨-, hm⟩ := v_ixe (by have := v_nm5 h; omega) e
    obtain ⟨σ1, hσ1⟩ : ∃ σ1, σ1 = bt_gs σ 1 m 3 (nI 0) := ⟨_, rfl⟩
    have eF : b_rep σ x a = (.inl (some (.int (σ.1 1 m 3))), σ1, (b_all σ1 x).2) := by subst hσ1; unfold b_rep; rw [e]
    rw [eF] at hX hr ⊢
    have e12 : σ1.2 = σ.2 := by subst hσ1; rfl
    have e1n : ∀ c i k, ¬ (c = 1 ∧ i = m ∧ k = 3) → σ1.1 c i k = σ.1 c i k := fun c i k hc => by subst hσ1; rw [b_gs_ne (by omega)]
    have v3 : σ1.1 1 m 3 = nI 0 := by subst hσ1; rw [b_gs_at]
    have hI : v_IS σ1 := h.1.1.mach (m := m) ⟨e12, fun c i k hc => e1n c i k (by omega)⟩ ⟨Or.inl v3, fun q => absurd v3 q⟩ (fun hm' => by
      rw [e1n 1 m 1 (by omega), e1n 1 m 2 (by omega)]
      exact h.1.1.2.2.2.2.2 m hm')
    have n2 : ∀ c i k, ¬ (c = 8 ∧ (i = 13 ∨ i = 14) ∧ k = m) → (m_brS σ1 m (nI 0) (nI 0)).1 c i k = σ1.1 c i k := fun c i k hc => by unfold m_brS; rw [b_gs_ne (by omega), b_gs_ne (by omega)]
    have v13 : (m_brS σ1 m (nI 0) (nI 0)).1 8 13 m = nI 0 := by unfold m_brS; rw [b_gs_ne (by omega), b_gs_at]
    have v14 : (m_brS σ1 m (nI 0) (nI 0)).1 8 14 m = nI 0 := by unfold m_brS; rw [b_gs_at]
    have hcA : v_cA σ1 (m_brS σ1 m (nI 0) (nI 0)) := ⟨rfl, fun c i k hc => n2 c i k (by omega)⟩
    obtain ⟨hR, hRs⟩ := v_RR (σ2 := m_brS σ1 m (nI 0) (nI 0)) h e12 (fun c i k hc => by rw [n2 c i k (by omega), e1n c i k (by omega)]) (fun m' hm' => by
      rw [n2 8 12 m' (by omega), n2 1 m' 1 (by omega), n2 1 m' 3 (by omega), n2 1 m' 4 (by omega), n2 1 m' 5 (by omega), e1n 8 12 m' (by omega), e1n 1 m' 1 (by omega)]
      by_cases em' : m' = m
      · subst em'
        rw [v3, v13, v14]
        exact ⟨(h.2.2.1.2.2.2.2.1 m' hm').1, fun _ => ⟨rfl, rfl⟩, fun q => absurd rfl q⟩
      · rw [n2 8 13 m' (by omega), n2 8 14 m' (by omega), e1n 8 13 m' (by omega), e1n 8 14 m' (by omega), e1n 1 m' 3 (by omega), e1n 1 m' 4 (by omega), e1n 1 m' 5 (by omega)]
        exact h.2.2.1.2.2.2.2.1 m' hm') (fun f' g' hf hg => by
      rw [n2 8 25 _ (by omega), e1n 8 25 _ (by omega), n2 8 _ g' (by omega), e1n 8 _ g' (by omega)]
      exact h.2.2.1.2.2.2.2.2.1 f' g' hf hg) (fun m' q1 q2 => by
      rw [n2 8 13 m' (by omega), n2 8 14 m' (by omega), e1n 8 13 m' (by omega), e1n 8 14 m' (by omega)]
      exact h.2.1.2.2.2.1 m' q1 q2) (fun j hj => by
      rw [n2 8 18 j (by omega), n2 8 20 j (by omega), n2 0 j 1 (by omega), n2 0 j 3 (by omega), e1n 8 18 j (by omega), e1n 8 20 j (by omega), e1n 0 j 1 (by omega), e1n 0 j 3 (by omega)]
      exact h.2.2.1.2.2.2.2.2.2 j hj) (fun j q1 q2 => by
      rw [n2 8 20 j (by omega), e1n 8 20 j (by omega)]
      exact h.2.1.2.2.2.2 j q1 q2)
    obtain ⟨I2, -⟩ := v_again2 h e12 (fun j => e1n 0 j 3 (by omega)) hI hcA hX hr hR hRs
    have em : m_rep σ1 w a = ((if σ.1 8 14 m ≤ 0 then nI 0 else nI 1), m_brS σ1 m (nI 0) (nI 0), m_thr w (nI 0)) := by
      have enm3 : m_nm σ1 = b_nm σ := by rw [← v_nm h]; unfold m_nm; rw [e1n 6 0 1 (by omega)]
      unfold m_rep
      rw [enm3, e]
      show ((if σ1.1 8 14 m ≤ 0 then nI 0 else nI 1), _, _) = _
      rw [e1n 8 14 m (by omega)]
    rw [show m_rep ((Sum.inl (some (Value.int (σ.1 1 m 3))), σ1, (b_all σ1 x).2) : b_R).2.1 w a = _ from em]
    obtain ⟨u1, u2⟩ := h.1.1.2.2.1 m hm
    refine ⟨⟨I2.thr, m_thr_at, fun u hu => ?_⟩, fun u hu => by cases hu; exact u1⟩
    cases hu
    show (if σ.1 8 14 m ≤ 0 then nI 0 else nI 1) = σ.1 1 m 3
    obtain ⟨-, r1, r2⟩ := h.2.2.1.2.2.2.2.1 m hm
    rcases u1 with q | q
    · rw [(r1 q).2, q, if_pos (by decide)]
    · have hne : σ.1 1 m 3 ≠ nI 0 := by rw [q]; decide
      obtain ⟨a', b', e4, e5, hab, hb⟩ := u2 hne
      rw [(r2 hne).2, e5, if_neg (nI_nle (by omega) (by omega)), q]
theorem s_setp (h : v_Inv σ x) {f g t : Int32} (hX : v_cX (b_set σ x f g t).2.2 w) (hr : v_rA (b_set σ x f g t).2.2 w) : v_Ok (b_set σ x f g t) z_setSetup (m_set (b_set σ x f g t).2.1 w f g t) := by
  have thr : ∀ {E : String} {c : Int32}, b_set σ x f g t = (.inr E, σ, x) → c = z_setSetup (.inr E) → m_set σ w f g t = (nI 0, σ, m_thr w c) → v_Ok (b_set σ x f g t) z_setSetup (m_set (b_set σ x f g t).2.1 w f g t) := fun e1 e2 e3 => by
    rw [e1] at hX hr ⊢
    rw [show m_set ((Sum.inr _, σ, x) : b_R).2.1 w f g t = _ from e3]
    exact (h.go hX hr).thrOk e2 (fun u q => by cases q)
  have k3 := fun v : Int32 => v_in0 (f := v) (n := 3) (by decide)
  have k60 := v_in0 (f := t) (n := 60) (by decide)
  by_cases c1 : f < 0
  · exact thr (E := b_IO) (c := nI 1) (by unfold b_set; exact if_pos c1) rfl (by unfold m_set; exact if_pos ((k3 f).mpr (Or.inl c1)))
  by_cases c2 : nI 4 ≤ f
  · exact thr (E := b_IO) (c := nI 1) (by unfold b_set; exact (if_neg c1).trans (if_pos c2)) rfl (by unfold m_set; exact if_pos ((k3 f).mpr (Or.inr (Int32.not_lt.mpr c2))))
  have n1 : ¬ m_in f (nI 0) (nI 3) = 0 := fun q => ((k3 f).mp q).elim c1 (fun q => c2 (Int32.not_lt.mp q))
  by_cases c3 : g < 0
  · exact thr (E := b_IO) (c := nI 1) (by unfold b_set; exact (if_neg c1).trans ((if_neg c2).trans (if_pos c3))) rfl (by unfold m_set; exact (if_neg n1).trans (if_pos ((k3 g).mpr (Or.inl c3))))
  by_cases c4 : g < nI 4
  · have n2 : ¬ m_in g (nI 0) (nI 3) = 0 := fun q => ((k3 g).mp q).elim c3 (fun q => q c4)
    by_cases c5 : t < 0
    · exact thr (E := b_IA) (c := nI 2) (by unfold b_set; exact (if_neg c1).trans ((if_neg c2).trans ((if_neg c3).trans ((if_pos c4).trans (if_pos c5))))) rfl (by unfold m_set; exact (if_neg n1).trans ((if_neg n2).trans (if_pos (k60.mpr (Or.inl c5)))))
    by_cases c6 : t ≤ nI 60
    · obtain ⟨T, t1, t2⟩ := v_nI c5 c6 (by decide)
      have n3 : ¬ m_in t (nI 0) (nI 60) = 0 := fun q => (k60.mp q).elim c5 (fun q => q (by rw [t1]; exact nI_lt (by omega) (by decide)))
      obtain ⟨f1, f2⟩ := b_nn c1 (Int32.not_le.mp c2) (by decide)
      obtain ⟨g1, g2⟩ := b_nn c3 c4 (by decide)
      obtain ⟨σ1, hσ1⟩ : ∃ σ1, σ1 = bt_gs σ 8 (1 + f.toNatClampNeg) g.toNatClampNeg t := ⟨_, rfl⟩
      have eF : b_set σ x f g t = (.inl (some (.int (σ.1 8 (1 + f.toNatClampNeg) g.toNatClampNeg))), σ1, (b_all σ1 x).2) := by
        subst hσ1
        unfold b_set
        exact (if_neg c1).trans ((if_neg c2).trans ((if_neg c3).trans ((if_pos c4).trans ((if_neg c5).trans (if_pos c6)))))
      rw [eF] at hX hr ⊢
      generalize f.toNatClampNeg = F at f1 f2 hσ1 hX hr ⊢
      generalize g.toNatClampNeg = H at g1 g2 hσ1 hX hr ⊢
      have e12 : σ1.2 = σ.2 := by subst hσ1; rfl
      have e1n : ∀ c i k, ¬ (c = 8 ∧ i = 1 + F ∧ k = H) → σ1.1 c i k = σ.1 c i k := fun c i k hc => by subst hσ1; rw [b_gs_ne (by omega)]
      have v1 : σ1.1 8 (1 + F) H = t := by subst hσ1; rw [b_gs_at]
      have hI : v_IS σ1 := by
        obtain ⟨a1, a2, a3, a4, a5, a6⟩ := h.1.1
        have eop : ∀ i, v_op σ1 i ↔ v_op σ i := fun i => by unfold v_op b_nj b_np; rw [e12]
        have efn : ∀ i, b_fn σ1 i = b_fn σ i := fun i => by unfold b_fn; rw [e1n 2 i 4 (by omega)]
        have enm : b_nm σ1 = b_nm σ := by unfold b_nm; rw [e12]
        have enj : b_nj σ1 = b_nj σ := by unfold b_nj; rw [e12]
        have enp : ∀ j, b_np σ1 j = b_np σ j := fun j => by unfold b_np; rw [e12]
        have ebm : ∀ i, b_m σ1 i = b_m σ i := fun i => by unfold b_m; rw [e12]
        refine ⟨?_, fun i hi => ?_, fun m' hm => ?_, fun f' g' hf hg => ?_, fun j hj => ?_, fun m' hm => ?_⟩
        · unfold b_St b_nm b_nj b_np
          rw [e12]
          exact a1
        · have q := a2 i ((eop i).mp hi)
          rw [efn, enm, enp, e1n 2 i 4 (by omega), e1n 2 i 1 (by omega), e1n 2 i 3 (by omega), e1n 2 i 5 (by omega), e12]
          exact q
        · rw [enm] at hm
          rw [e1n 1 m' 3 (by omega), e1n 1 m' 4 (by omega), e1n 1 m' 5 (by omega)]
          exact a3 m' hm
        · by_cases q : f' = F ∧ g' = H
          · obtain ⟨rfl, rfl⟩ := q
            exact ⟨T, by rw [v1]; exact t1, t2⟩
          · rw [e1n 8 _ g' (by omega)]
            exact a4 f' g' hf hg
        · rw [enj] at hj
          rw [e1n 0 j 0 (by omega), e1n 0 j 1 (by omega), e1n 0 j 3 (by omega), enp]
          exact a5 j hj
        · rw [enm] at hm
          obtain ⟨c, u, q1, q2, q3, q4, q5, q6, q7⟩ := a6 m' hm
          refine ⟨c, u, by rw [e1n 1 m' 1 (by omega)]; exact q1, q2, q3, by rw [e1n 1 m' 2 (by omega)]; exact q4, q5, fun i hi hm2 => ?_, q7.imp id (fun q => ?_)⟩
          · rw [e1n 2 i 5 (by omega)]
            exact q6 i ((eop i).mp hi) (by rw [← ebm]; exact hm2)
          · obtain ⟨i, r1, r2, r3⟩ := q
            exact ⟨i, (eop i).mpr r1, by rw [ebm]; exact r2, by rw [e1n 2 i 5 (by omega)]; exact r3⟩
      obtain ⟨σ2, hσ2⟩ : ∃ σ2, σ2 = bt_gs σ1 8 25 (4 * F + H) t := ⟨_, rfl⟩
      have n2' : ∀ c i k, ¬ (c = 8 ∧ i = 25 ∧ k = 4 * F + H) → σ2.1 c i k = σ1.1 c i k := fun c i k hc => by subst hσ2; rw [b_gs_ne (by omega)]
      have v25 : σ2.1 8 25 (4 * F + H) = t := by subst hσ2; rw [b_gs_at]
      have hcA : v_cA σ1 σ2 := ⟨by subst hσ2; rfl, fun c i k hc => n2' c i k (by omega)⟩
      obtain ⟨hR, hRs⟩ := v_RR (σ2 := σ2) h (hcA.1.trans e12) (fun c i k hc => by rw [n2' c i k (by omega), e1n c i k (by omega)]) (fun m' hm' => by
        rw [n2' 8 12 m' (by omega), n2' 1 m' 1 (by omega), n2' 1 m' 3 (by omega), n2' 1 m' 4 (by omega), n2' 1 m' 5 (by omega), n2' 8 13 m' (by omega), n2' 8 14 m' (by omega), e1n 8 12 m' (by omega), e1n 1 m' 1 (by omega), e1n 8 13 m' (by omega), e1n 8 14 m' (by omega), e1n 1 m' 3 (by omega), e1n 1 m' 4 (by omega), e1n 1 m' 5 (by omega)]
        exact h.2.2.1.2.2.2.2.1 m' hm') (fun f' g' hf hg => by
        by_cases q : f' = F ∧ g' = H
        · obtain ⟨rfl, rfl⟩ := q
          rw [v25, n2' 8 _ g' (by omega), v1]
        · rw [n2' 8 25 _ (by omega), e1n 8 25 _ (by omega), n2' 8 _ g' (by omega), e1n 8 _ g' (by omega)]
          exact h.2.2.1.2.2.2.2.2.1 f' g' hf hg) (fun m' q1 q2 => by
        rw [n2' 8 13 m' (by omega), n2' 8 14 m' (by omega), e1n 8 13 m' (by omega), e1n 8 14 m' (by omega)]
        exact h.2.1.2.2.2.1 m' q1 q2) (fun j hj => by
        rw [n2' 8 18 j (by omega), n2' 8 20 j (by omega), n2' 0 j 1 (by omega), n2' 0 j 3 (by omega), e1n 8 18 j (by omega), e1n 8 20 j (by omega), e1n 0 j 1 (by omega), e1n 0 j 3 (by omega)]
        exact h.2.2.1.2.2.2.2.2.2 j hj) (fun j q1 q2 => by
        rw [n2' 8 20 j (by omega), e1n 8 20 j (by omega)]
        exact h.2.1.2.2.2.2 j q1 q2)
      obtain ⟨I2, -⟩ := v_again2 h e12 (fun j => e1n 0 j 3 (by omega)) hI hcA hX hr hR hRs
      have em : m_set σ1 w f g t = (m_su σ1 F H, σ2, m_thr w (nI 0)) := by
        unfold m_set
        rw [if_neg n1, if_neg n2, if_neg n3, f1, g1, show nN (nI F) = F from nI_clamp (by omega), show nN (nI H) = H from nI_clamp (by omega), hσ2]
      rw [show m_set ((Sum.inl (some (Value.int (σ.1 8 (1 + F) H))), σ1, (b_all σ1 x).2) : b_R).2.1 w f g t = _ from em]
      refine ⟨I2.thr, m_thr_at, fun u hu => ?_⟩
      cases hu
      show σ1.1 8 25 (4 * F + H) = σ.1 8 (1 + F) H
      rw [e1n 8 25 _ (by omega)]
      exact h.2.2.1.2.2.2.2.2.1 F H f2 g2
    · exact thr (E := b_IA) (c := nI 2) (by unfold b_set; exact (if_neg c1).trans ((if_neg c2).trans ((if_neg c3).trans ((if_pos c4).trans ((if_neg c5).trans (if_neg c6)))))) rfl (by
        unfold m_set
        refine (if_neg n1).trans ((if_neg n2).trans (if_pos (k60.mpr (Or.inr (fun q => c6 ?_)))))
        obtain ⟨j, hj, rfl⟩ := nI_of c5
        have := (nI_ltI hj (by decide)).mp q
        exact nI_le (by omega) (by decide))
  · exact thr (E := b_IO) (c := nI 1) (by unfold b_set; exact (if_neg c1).trans ((if_neg c2).trans ((if_neg c3).trans (if_neg c4)))) rfl (by unfold m_set; exact (if_neg n1).trans (if_pos ((k3 g).mpr (Or.inr c4))))
end VK

