/-! ===== breakdown, repair, setSetup, setMagazine ===== -/
section VH
variable {σ σ' σ1 σ2 x x1 y w z : bt_X} {m : Nat}
/-- behind the finding of times -/
theorem v_after (hI : v_IS σ) (hW : v_W σ y) (hk : v_Lk σ y) (hp : v_Pl σ y) (hT : ∃ r, v_Rk σ y r) : v_IC σ (b_all σ y).2 ∧ (b_all σ y).1 = nI 1 := by
  obtain ⟨g1, g2, g3, g4⟩ := v_retime hI.1 hI.2.1 hW hT
  obtain ⟨-, e1, e2⟩ := v_all hI.1 hI.2.1 hW
  refine ⟨⟨hI, g3, fun i hi => ?_, fun i hi => ?_, g2, g4⟩, g1⟩
  · rw [e1]; exact hk i hi
  · rw [← hp i hi]
    constructor
    · rintro ⟨m, q1, q2⟩
      exact ⟨m, q1, by rw [e2 _ (by omega)] at q2; exact q2⟩
    · rintro ⟨m, q1, q2⟩
      exact ⟨m, q1, by rw [e2 _ (by omega)]; exact q2⟩
theorem v_all_rows (hI : v_IS σ) (hW : v_W σ y) : ∀ n, n ≠ 2 → (b_all σ y).2.2.2 n = y.2.2 n := (v_all hI.1 hI.2.1 hW).2.2
/-- one machine's numbers are other -/
def v_mA (σ σ' : bt_X) (m : Nat) : Prop := σ'.2 = σ.2 ∧ ∀ c i k, ¬ (c = 1 ∧ i = m) → σ'.1 c i k = σ.1 c i k
theorem v_IS.mach (h : v_IS σ) (hA : v_mA σ σ' m)
    (hM : (σ'.1 1 m 3 = nI 0 ∨ σ'.1 1 m 3 = nI 1) ∧ (σ'.1 1 m 3 ≠ nI 0 → ∃ a b, σ'.1 1 m 4 = nI a ∧ σ'.1 1 m 5 = nI b ∧ a < b ∧ b ≤ 10000))
    (hT : m < b_nm σ → ∃ c t, σ'.1 1 m 1 = nI c ∧ 1 ≤ c ∧ c ≤ 8 ∧ σ'.1 1 m 2 = nI t ∧ t ≤ c ∧ (∀ i, v_op σ i → b_m σ i = m → v_pc (nN (σ.1 2 i 5)) ≤ t) ∧ (t = 0 ∨ ∃ i, v_op σ i ∧ b_m σ i = m ∧ v_pc (nN (σ.1 2 i 5)) = t)) : v_IS σ' := by
  obtain ⟨h1, h2, h3, h4, h5, h6⟩ := h
  have e2 := hA.1
  have eop : ∀ i, v_op σ' i ↔ v_op σ i := fun i => by unfold v_op b_nj b_np; rw [e2]
  have efn : ∀ i, b_fn σ' i = b_fn σ i := fun i => by unfold b_fn; rw [hA.2 2 i 4 (by omega)]
  have enm : b_nm σ' = b_nm σ := by unfold b_nm; rw [e2]
  have enj : b_nj σ' = b_nj σ := by unfold b_nj; rw [e2]
  have enp : ∀ j, b_np σ' j = b_np σ j := fun j => by unfold b_np; rw [e2]
  have ebm : ∀ i, b_m σ' i = b_m σ i := fun i => by unfold b_m; rw [e2]
  refine ⟨?_, fun i hi => ?_, fun m' hm => ?_, fun f g hf hg => ?_, fun j hj => ?_, fun m' hm => ?_⟩
  · unfold b_St b_nm b_nj b_np
    rw [e2]
    exact h1
  · have g := h2 i ((eop i).mp hi)
    rw [efn, enm, enp, hA.2 2 i 4 (by omega), hA.2 2 i 1 (by omega), hA.2 2 i 3 (by omega), hA.2 2 i 5 (by omega), e2]
    exact g
  · rw [enm] at hm
    by_cases e : m' = m
    · subst e; exact hM
    · rw [hA.2 1 m' 3 (by omega), hA.2 1 m' 4 (by omega), hA.2 1 m' 5 (by omega)]
      exact h3 m' hm
  · rw [hA.2 8 _ g (by omega)]
    exact h4 f g hf hg
  · rw [enj] at hj
    rw [hA.2 0 j 0 (by omega), hA.2 0 j 1 (by omega), hA.2 0 j 3 (by omega), enp]
    exact h5 j hj
  · rw [enm] at hm
    have key : ∃ c t, σ'.1 1 m' 1 = nI c ∧ 1 ≤ c ∧ c ≤ 8 ∧ σ'.1 1 m' 2 = nI t ∧ t ≤ c ∧ (∀ i, v_op σ i → b_m σ i = m' → v_pc (nN (σ.1 2 i 5)) ≤ t) ∧ (t = 0 ∨ ∃ i, v_op σ i ∧ b_m σ i = m' ∧ v_pc (nN (σ.1 2 i 5)) = t) := by
      by_cases e : m' = m
      · subst e; exact hT hm
      · rw [hA.2 1 m' 1 (by omega), hA.2 1 m' 2 (by omega)]
        exact h6 m' hm
    obtain ⟨c, t, q1, q2, q3, q4, q5, q6, q7⟩ := key
    refine ⟨c, t, q1, q2, q3, q4, q5, fun i hi hm2 => ?_, q7.imp id (fun q => ?_)⟩
    · rw [hA.2 2 i 5 (by omega)]
      exact q6 i ((eop i).mp hi) (by rw [← ebm]; exact hm2)
    · obtain ⟨i, r1, r2, r3⟩ := q
      exact ⟨i, (eop i).mpr r1, by rw [ebm]; exact r2, by rw [hA.2 2 i 5 (by omega)]; exact r3⟩
theorem v_Lk.congr (h : v_Lk σ x) (e : σ'.2 = σ.2) : v_Lk σ' x := by
  unfold v_Lk v_op b_nj b_np at h ⊢
  rw [e]
  exact h
theorem v_Pl.congr (h : v_Pl σ x) (e : σ'.2 = σ.2) (e3 : ∀ j, σ'.1 0 j 3 = σ.1 0 j 3) : v_Pl σ' x := by
  unfold v_Pl v_op b_nj b_np b_nm at h ⊢
  rw [e]
  intro i hi
  rw [e3]
  exact h i hi
theorem v_To.congr {L : List Nat} (h : v_To σ x L) (e : σ'.2 = σ.2) : v_To σ' x L := by
  unfold v_To b_nm at h ⊢
  rw [e]
  exact h
/-- the same rows, timed anew -/
theorem v_again (h : v_Inv σ x) (e : σ1.2 = σ.2) (e3 : ∀ j, σ1.1 0 j 3 = σ.1 0 j 3) (hI : v_IS σ1) : v_IC σ1 (b_all σ1 x).2 ∧ (b_all σ1 x).1 = nI 1 ∧ (∀ n, n ≠ 2 → (b_all σ1 x).2.2.2 n = x.2.2 n) := by
  have hW : v_W σ1 x := h.1.2.1.congr e rfl (fun _ _ => rfl)
  obtain ⟨g1, g2⟩ := v_after hI hW (h.1.2.2.1.congr e) (h.1.2.2.2.1.congr e e3) ⟨_, v_To_Rk ((v_CI_To h.1.2.2.2.2.1 h.1.2.2.2.2.2).congr e)⟩
  exact ⟨g1, g2, v_all_rows hI hW⟩
/-- what the reference's contents are like, behind it -/
theorem v_again2 (h : v_Inv σ x) (e : σ1.2 = σ.2) (e3 : ∀ j, σ1.1 0 j 3 = σ.1 0 j 3) (hI : v_IS σ1) (hcA : v_cA σ1 σ2) (hX : v_cX (b_all σ1 x).2 w) (hr : v_rA (b_all σ1 x).2 w) (hR : v_IR σ2) (hRs : v_Rs σ2) : v_Inv σ2 w ∧ w.1 4 0 5 = (b_all σ1 x).2.1 4 0 5 := by
  obtain ⟨g1, g2, g3⟩ := v_again h e e3 hI
  refine ⟨⟨g1.congr hcA hX, hR, hRs, ?_⟩, hX.2.2 4 0 5 (by omega) (by omega)⟩
  have hRd : v_Rd σ w w := h.2.2.2.ext (fun m _ => by rw [hX.2.1 _ (by omega), g3 _ (by omega)]) (fun i k hi => by rw [hr 8 i k (by omega), v_all_n (by omega)])
  have enm : b_nm σ2 = b_nm σ := by unfold b_nm; rw [hcA.1, e]
  unfold v_Rd at hRd ⊢
  rw [enm]
  exact hRd
theorem v_nI {f : Int32} {n : Nat} (h1 : ¬ f < 0) (h2 : f ≤ nI n) (hn : n < 2 ^ 31) : ∃ a : Nat, f = nI a ∧ a ≤ n := by
  obtain ⟨j, hj, rfl⟩ := nI_of h1
  exact ⟨j, rfl, (nI_leI hj hn).mp h2⟩
/-- in a range -/
theorem v_in0 {f : Int32} {n : Nat} (hn : n + 1 < 2 ^ 31) : (m_in f (nI 0) (nI n) = 0 ↔ (f < 0 ∨ ¬ f < nI (n + 1))) := by
  unfold m_in
  by_cases c : f < 0
  · rw [if_pos (show f < nI 0 from c)]; exact ⟨fun _ => Or.inl c, fun _ => rfl⟩
  · rw [if_neg (show ¬ f < nI 0 from c)]
    obtain ⟨j, hj, rfl⟩ := nI_of c
    by_cases d : nI n < nI j
    · rw [if_pos d]
      have := (nI_ltI (by omega) hj).mp d
      exact ⟨fun _ => Or.inr (nI_nlt (by omega) hj), fun _ => rfl⟩
    · rw [if_neg d]
      have : ¬ n < j := fun q => d ((nI_ltI (by omega) hj).mpr q)
      exact ⟨fun q => absurd q (by decide), fun q => absurd (nI_lt (by omega) (by omega)) (q.resolve_left c)⟩
theorem v_Inv.thrOk {F : b_R} {code : Int32 ⊕ String → Int32} {v c : Int32} (hw : v_Inv σ w) (hc : c = code (z_f F.1)) (hu : ∀ u, z_f F.1 ≠ .inl u) : v_Ok F code (v, σ, m_thr w c) :=
  ⟨hw.thr, by rw [← hc]; exact m_thr_at, fun u q => absurd q (hu u)⟩
/-- what the reference and the class have in common, where no operation is new -/
theorem v_RR (h : v_Inv σ x) (e2 : σ2.2 = σ.2) (en : ∀ c i k, c = 2 ∨ c = 6 ∨ (c = 8 ∧ (i = 19 ∨ (21 ≤ i ∧ i ≤ 24))) → σ2.1 c i k = σ.1 c i k)
    (hmach : ∀ m', m' < b_nm σ → σ2.1 8 12 m' = σ2.1 1 m' 1 ∧ (σ2.1 1 m' 3 = nI 0 → σ2.1 8 13 m' = nI 0 ∧ σ2.1 8 14 m' = nI 0) ∧ (σ2.1 1 m' 3 ≠ nI 0 → σ2.1 8 13 m' = σ2.1 1 m' 4 ∧ σ2.1 8 14 m' = σ2.1 1 m' 5))
    (hsu : ∀ f g, f < 4 → g < 4 → σ2.1 8 25 (4 * f + g) = σ2.1 8 (1 + f) g) (hz : ∀ m', b_nm σ ≤ m' → m' < 4 → σ2.1 8 13 m' = nI 0 ∧ σ2.1 8 14 m' = nI 0)
    (hjob : ∀ j, j < b_nj σ → σ2.1 8 18 j = σ2.1 0 j 1 ∧ σ2.1 8 20 j = σ2.1 0 j 3) (hz20 : ∀ j, b_nj σ ≤ j → j < 8 → σ2.1 8 20 j = nI 0) : v_IR σ2 ∧ v_Rs σ2 := by
  have enm : b_nm σ2 = b_nm σ := by unfold b_nm; rw [e2]
  have enj : b_nj σ2 = b_nj σ := by unfold b_nj; rw [e2]
  have enp : ∀ j, b_np σ2 j = b_np σ j := fun j => by unfold b_np; rw [e2]
  have ebm : ∀ i, b_m σ2 i = b_m σ i := fun i => by unfold b_m; rw [e2]
  have eop : ∀ i, v_op σ2 i ↔ v_op σ i := fun i => by unfold v_op b_nj b_np; rw [e2]
  have efn : ∀ i, b_fn σ2 i = b_fn σ i := fun i => by unfold b_fn; rw [en 2 i 4 (by omega)]
  refine ⟨?_, ?_⟩
  · obtain ⟨⟨r1, r2, r3⟩, r4, r5, r6, r7⟩ := h.2.1
    refine ⟨⟨by rw [en 6 0 1 (by omega)]; exact r1, by rw [en 6 0 7 (by omega)]; exact r2, fun j hj => by rw [en 8 19 j (by omega)]; exact r3 j hj⟩, fun p hp => ?_, fun p hp => ?_, fun m' q1 q2 => hz m' (by rw [← enm]; exact q1) q2, fun j q1 q2 => hz20 j (by rw [← enj]; exact q1) q2⟩
    · rw [en 8 21 p (by omega), en 8 23 p (by omega)]; exact r4 p hp
    · rw [en 8 24 p (by omega)]; exact r5 p hp
  · obtain ⟨r1, r2, r3, r4, r5, r6, r7⟩ := h.2.2.1
    refine ⟨?_, ?_, fun j hj => ?_, fun i hi => ?_, fun m' hm' => hmach m' (by rw [← enm]; exact hm'), fun f g hf hg => hsu f g hf hg, fun j hj => hjob j (by rw [← enj]; exact hj)⟩
    · rw [enm, ← r1]; unfold m_nm; rw [en 6 0 1 (by omega)]
    · rw [enj, ← r2]; unfold m_nj; rw [en 6 0 7 (by omega)]
    · rw [enj, enp, ← r3 j hj]; unfold m_np; rw [en 8 19 j (by omega)]
    · have g := r4 i ((eop i).mp hi)
      unfold m_mc m_fm at g ⊢
      rw [ebm, efn, en 8 21 i (by omega), en 8 22 i (by omega), en 8 23 i (by omega), en 8 24 i (by omega), en 2 i 3 (by omega), en 2 i 5 (by omega)]
      exact g
/-- breakdown -/
theorem s_brk (h : v_Inv σ x) {a f t : Int32} (hX : v_cX (b_brk σ x a f t).2.2 w) (hr : v_rA (b_brk σ x a f t).2.2 w) : v_Ok (b_brk σ x a f t) z_breakdown (m_brk (b_brk σ x a f t).2.1 w a f t) := by
  have thr : ∀ {E : String} {c : Int32}, b_brk σ x a f t = (.inr E, σ, x) → c = z_breakdown (.inr E) → m_brk σ w a f t = (nI 0, σ, m_thr w c) → v_Ok (b_brk σ x a f t) z_breakdown (m_brk (b_brk σ x a f t).2.1 w a f t) := fun e1 e2 e3 => by
    rw [e1] at hX hr ⊢
    rw [show m_brk ((Sum.inr _, σ, x) : b_R).2.1 w a f t = _ from e3]
    exact (h.go hX hr).thrOk e2 (fun u q => by cases q)
  cases e : b_ix (b_nm σ) a with
  | none => exact thr (E := b_IO) (c := nI 1) (by unfold b_brk; rw [e]) rfl (by unfold m_brk; rw [v_nm h, e])
  | some m =>
    obtain ⟨-, hm⟩ := v_ixe (by have := v_nm5 h; omega) e
    have h9 := v_in0 (f := f) (n := 9999) (by decide)
    have em : m_brk σ w a f t = if m_in f (nI 0) (nI 9999) = 0 then (nI 0, σ, m_thr w (nI 2)) else if t ≤ f then (nI 0, σ, m_thr w (nI 2)) else if nI 10000 < t then (nI 0, σ, m_thr w (nI 2)) else (m_spanOf (m_brS σ m f t) (m_thr w (nI 0)), m_brS σ m f t, m_wS (m_brS σ m f t) (m_thr w (nI 0))) := by
      unfold m_brk; rw [v_nm h, e]
    by_cases c1 : f < 0
    · exact thr (E := b_IA) (c := nI 2) (by unfold b_brk; rw [e]; exact if_pos c1) rfl (em.trans (if_pos (h9.mpr (Or.inl c1))))
    by_cases c2 : f < nI 10000
    · have k0 : ¬ m_in f (nI 0) (nI 9999) = 0 := fun q => (h9.mp q).elim c1 (fun q => q c2)
      by_cases c3 : t ≤ f
      · exact thr (E := b_IA) (c := nI 2) (by unfold b_brk; rw [e]; exact (if_neg c1).trans ((if_pos c2).trans (if_pos c3))) rfl (em.trans ((if_neg k0).trans (if_pos c3)))
      by_cases c4 : t ≤ nI 10000
      · obtain ⟨σ1, hσ1⟩ : ∃ σ1, σ1 = bt_gs (bt_gs (bt_gs σ 1 m 3 (nI 1)) 1 m 4 f) 1 m 5 t := ⟨_, rfl⟩
        have eF : b_brk σ x a f t = (.inl (some (.int ((b_all σ1 x).2.1 4 0 5))), σ1, (b_all σ1 x).2) := by
          subst hσ1
          unfold b_brk
          rw [e]
          exact (if_neg c1).trans ((if_pos c2).trans ((if_neg c3).trans (if_pos c4)))
        rw [eF] at hX hr ⊢
        have e12 : σ1.2 = σ.2 := by subst hσ1; rfl
        have e1n : ∀ c i k, ¬ (c = 1 ∧ i = m ∧ (k = 3 ∨ k = 4 ∨ k = 5)) → σ1.1 c i k = σ.1 c i k := fun c i k hc => by subst hσ1; rw [b_gs_ne (by omega), b_gs_ne (by omega), b_gs_ne (by omega)]
        have v3 : σ1.1 1 m 3 = nI 1 := by subst hσ1; rw [b_gs_ne (by omega), b_gs_ne (by omega), b_gs_at]
        have v4 : σ1.1 1 m 4 = f := by subst hσ1; rw [b_gs_ne (by omega), b_gs_at]
        have v5 : σ1.1 1 m 5 = t := by subst hσ1; rw [b_gs_at]
        obtain ⟨p1, p2⟩ := b_nn c1 c2 (by decide)
        obtain ⟨q, q1, q2⟩ := v_nI (f := t) (n := 10000) (fun z => c3 (Int32.le_of_lt (Int32.lt_of_lt_of_le z (Int32.not_lt.mp c1)))) c4 (by decide)
        have hlt : f.toNatClampNeg < q := by
          refine Nat.lt_of_not_le (fun z => c3 ?_)
          rw [p1, q1]
          exact nI_le z (by omega)
        have hI : v_IS σ1 := h.1.1.mach (m := m) ⟨e12, fun c i k hc => e1n c i k (by omega)⟩ ⟨Or.inr v3, fun _ => ⟨f.toNatClampNeg, q, by rw [v4]; exact p1, by rw [v5]; exact q1, hlt, q2⟩⟩ (fun hm' => by
          rw [e1n 1 m 1 (by omega), e1n 1 m 2 (by omega)]
          exact h.1.1.2.2.2.2.2 m hm')
        have e3 : ∀ j, σ1.1 0 j 3 = σ.1 0 j 3 := fun j => e1n 0 j 3 (by omega)
        have enm : b_nm σ1 = b_nm σ := by unfold b_nm; rw [e12]
        have enj : b_nj σ1 = b_nj σ := by unfold b_nj; rw [e12]
        -- the reference's
        have n2 : ∀ c i k, ¬ (c = 8 ∧ (i = 13 ∨ i = 14) ∧ k = m) → (m_brS σ1 m f t).1 c i k = σ1.1 c i k := fun c i k hc => by unfold m_brS; rw [b_gs_ne (by omega), b_gs_ne (by omega)]
        have v13 : (m_brS σ1 m f t).1 8 13 m = f := by unfold m_brS; rw [b_gs_ne (by omega), b_gs_at]
        have v14 : (m_brS σ1 m f t).1 8 14 m = t := by unfold m_brS; rw [b_gs_at]
        have hcA : v_cA σ1 (m_brS σ1 m f t) := ⟨rfl, fun c i k hc => n2 c i k (by omega)⟩
        obtain ⟨hR, hRs⟩ := v_RR (σ2 := m_brS σ1 m f t) h e12 (fun c i k hc => by rw [n2 c i k (by omega), e1n c i k (by omega)]) (fun m' hm' => by
          rw [n2 8 12 m' (by omega), n2 1 m' 1 (by omega), n2 1 m' 3 (by omega), n2 1 m' 4 (by omega), n2 1 m' 5 (by omega), e1n 8 12 m' (by omega), e1n 1 m' 1 (by omega)]
          by_cases em' : m' = m
          · subst em'
            rw [v3, v4, v5, v13, v14]
            exact ⟨(h.2.2.1.2.2.2.2.1 m' hm').1, fun q => absurd q (by decide), fun _ => ⟨rfl, rfl⟩⟩
          · rw [n2 8 13 m' (by omega), n2 8 14 m' (by omega), e1n 8 13 m' (by omega), e1n 8 14 m' (by omega), e1n 1 m' 3 (by omega), e1n 1 m' 4 (by omega), e1n 1 m' 5 (by omega)]
            exact h.2.2.1.2.2.2.2.1 m' hm') (fun f' g' hf hg => by
          rw [n2 8 25 _ (by omega), e1n 8 25 _ (by omega), n2 8 _ g' (by omega), e1n 8 _ g' (by omega)]
          exact h.2.2.1.2.2.2.2.2.1 f' g' hf hg) (fun m' q1 q2 => by
          rw [n2 8 13 m' (by omega), n2 8 14 m' (by omega), e1n 8 13 m' (by omega), e1n 8 14 m' (by omega)]
          exact h.2.1.2.2.2.1 m' q1 q2) (fun j hj => by
          rw [n2 8 18 j (by omega), n2 8 20 j (by omega), n2 0 j 1 (by omega), n2 0 j 3 (by omega), e1n 8 18 j (by omega), e1n 8 20 j (by omega), e1n 0 j 1 (by omega), e1n 0 j 3 (by omega)]
          exact h.2.2.1.2.2.2.2.2.2 j hj) (fun j q1 q2 => by
          rw [n2 8 20 j (by omega), e1n 8 20 j (by omega)]
          exact h.2.1.2.2.2.2 j q1 q2)
        obtain ⟨I2, i5⟩ := v_again2 h e12 e3 hI hcA hX hr hR hRs
        have em1 : m_brk σ1 w a f t = (m_spanOf (m_brS σ1 m f t) (m_thr w (nI 0)), m_brS σ1 m f t, m_wS (m_brS σ1 m f t) (m_thr w (nI 0))) := by
          have enm3 : m_nm σ1 = b_nm σ := by rw [← v_nm h]; unfold m_nm; rw [e1n 6 0 1 (by omega)]
          unfold m_brk
          rw [enm3, e]
          exact (if_neg k0).trans ((if_neg c3).trans (if_neg (Int32.not_lt.mpr c4)))
        rw [show m_brk ((Sum.inl (some (Value.int ((b_all σ1 x).2.1 4 0 5))), σ1, (b_all σ1 x).2) : b_R).2.1 w a f t = _ from em1]
        have I3 := I2.thr (v := nI 0)
        refine ⟨I3.wS, by rw [m_works_n (by omega)]; exact m_thr_at, fun u hu => ?_⟩
        cases hu
        show m_span _ (m_wS _ (m_thr w (nI 0))) = _
        rw [(v_now I3).2.2, m_thr_n (by omega)]
        exact i5
      · exact thr (E := b_IA) (c := nI 2) (by unfold b_brk; rw [e]; exact (if_neg c1).trans ((if_pos c2).trans ((if_neg c3).trans (if_neg c4)))) rfl (em.trans ((if_neg k0).trans ((if_neg c3).trans (if_pos (Int32.not_le.mp c4)))))
    · exact thr (E := b_IA) (c := nI 2) (by unfold b_brk; rw [e]; exact (if_neg c1).trans (if_neg c2)) rfl (em.trans (if_pos (h9.mpr (Or.inr c2))))
end VH

