/-! ===== loads: one answer ===== -/
section VB2
variable {σ x z z' w : bt_X}
/-- the class: one operation more -/
theorem v_llS {m j o cap G P : Nat} {os : List Nat} (hdr : (x.2.2 (4 + m)).drop j = o :: os) (hw : ∀ i ∈ x.2.2 (4 + m), m_w 256 (σ.1 2 i 5)) (hcap : σ.1 1 m 1 = nI cap) (hc8 : cap ≤ 8) (hs : v_pc (v_f σ o) ≤ cap) (hG : G < 256) :
    ∃ G', b_ll σ x m j (o :: os) (nI G) (nI P) = b_ll σ x m (j + 1) os (nI G') (nI (P + v_pc (v_df (v_f σ o) G))) ∧ G' < 256 ∧ v_pc G' ≤ cap ∧
      (∀ a, (v_f σ o).testBit a = true → G'.testBit a = true) ∧ (∀ a, G'.testBit a = true → G.testBit a = true ∨ (v_f σ o).testBit a = true) ∧
      ∀ e, G.testBit e = true → G'.testBit e = false → cap ≤ v_pc G' ∧ ∀ d, v_us (v_f σ) os d e = true → ∀ b, G'.testBit b = true → (v_f σ o).testBit b = false → v_us (v_f σ) os d b = true := by
  have hmem : ∀ i ∈ o :: os, i ∈ x.2.2 (4 + m) := fun i hi => List.mem_of_mem_drop (by rw [hdr]; exact hi)
  have ho := hw o (hmem o List.mem_cons_self)
  have e5 : σ.1 2 o 5 = nI (v_f σ o) := ho.e
  have hs256 : v_f σ o < 256 := ho.l
  have hI : G ||| v_f σ o < 256 := v_or_256 hG hs256
  have hdr2 : (x.2.2 (4 + m)).drop (j + 1) = os := by
    rw [← List.tail_drop, hdr]
    rfl
  have hsub : v_pc (v_f σ o) ≤ v_pc (G ||| v_f σ o) := by
    rw [v_pc_c, v_pc_c]
    have := v_c2 (P := fun a => (v_f σ o).testBit a) (Q := fun _ => false) (P' := fun a => (G ||| v_f σ o).testBit a) (Q' := fun _ => false) (fun a _ => by
      rw [v_or_b]
      cases G.testBit a <;> cases (v_f σ o).testBit a <;> simp)
    have e0 := v_c0
    omega
  have hI8 := v_pc8 (G ||| v_f σ o)
  have en : (b_bc (nI (G ||| v_f σ o)) - nI cap).toNatClampNeg = v_pc (G ||| v_f σ o) - cap := by
    rw [v_bc256 _ hI]
    unfold Int32.toNatClampNeg
    rw [pk_sub_toInt (by omega) (by omega)]
    omega
  obtain ⟨G', g1, g2, g3, g4, g5, g6⟩ := v_exS (σ := σ) (x := x) (s := v_f σ o) hdr2 (fun i hi => hw i (hmem i (List.mem_cons_of_mem _ hi))) (v_pc (G ||| v_f σ o) - cap) (G ||| v_f σ o) hI (fun a ha => by rw [v_or_b, ha]; simp) (by omega)
  refine ⟨G', ?_, g2, by omega, g3, fun a ha => ?_, fun e he1 he2 => ⟨?_, g6 e (by rw [v_or_b, he1]; rfl) he2⟩⟩
  · conv => lhs; unfold b_ll
    rw [e5, hcap, nI_or, en, g1, nI_df, v_bc256 _ (v_df_256 hs256), nI_add]
  · have := g4 a ha
    rw [v_or_b] at this
    revert this
    cases G.testBit a <;> cases (v_f σ o).testBit a <;> simp
  · refine Nat.le_of_not_lt fun hlt => ?_
    have e0 : v_pc (G ||| v_f σ o) - cap = 0 := by omega
    rw [e0] at g1
    have e1 : nI (G ||| v_f σ o) = nI G' := g1
    have := (nI_eq (by omega) (by omega)).mp e1
    rw [← this, v_or_b, he1] at he2
    cases he2
/-! the reference -/
theorem m_ni_34 {s : Nat} {al cap cost : Int32} {q : Nat} : ∀ (n t : Nat) (z : bt_X), (m_ni s al cap cost n t z).1 8 34 q = if t ≤ q ∧ q < t + n then (if m_can s q al cap = 0 then z.1 8 34 q else if z.1 8 34 q ≤ cost then z.1 8 34 q else cost) else z.1 8 34 q := by
  intro n
  induction n with
  | zero => intro t z; rw [if_neg (show ¬ (t ≤ q ∧ q < t + 0) by omega)]; rfl
  | succ n ih =>
    intro t z
    unfold m_ni
    rw [ih]
    unfold m_n1
    by_cases c : q = t
    · subst c
      rw [if_neg (show ¬ (q + 1 ≤ q ∧ q < q + 1 + n) by omega), if_pos (show q ≤ q ∧ q < q + (n + 1) by omega), b_gs_at]
    · rw [b_gs_ne (by omega)]
      by_cases d : t + 1 ≤ q ∧ q < t + 1 + n
      · rw [if_pos d, if_pos (show t ≤ q ∧ q < t + (n + 1) by omega)]
      · rw [if_neg d, if_neg (show ¬ (t ≤ q ∧ q < t + (n + 1)) by omega)]
theorem v_sbs {s q : Nat} : q &&& s = s ↔ ∀ a, s.testBit a = true → q.testBit a = true := by
  constructor
  · intro h a ha
    have : (q &&& s).testBit a = true := by rw [h]; exact ha
    rw [Nat.testBit_and] at this
    revert this
    cases q.testBit a <;> simp
  · intro h
    apply Nat.eq_of_testBit_eq
    intro a
    rw [Nat.testBit_and]
    have := h a
    revert this
    cases q.testBit a <;> cases s.testBit a <;> simp
theorem v_sbs2 {q al : Nat} : q ||| al = al ↔ ∀ a, q.testBit a = true → al.testBit a = true := by
  constructor
  · intro h a ha
    rw [← h, Nat.testBit_or, ha]
    rfl
  · intro h
    apply Nat.eq_of_testBit_eq
    intro a
    rw [Nat.testBit_or]
    have := h a
    revert this
    cases q.testBit a <;> cases al.testBit a <;> simp
/-- from one magazine into another -/
def v_go (s cap u q : Nat) : Prop := (∀ a, s.testBit a = true → q.testBit a = true) ∧ (∀ a, q.testBit a = true → u.testBit a = true ∨ s.testBit a = true) ∧ v_pc q ≤ cap
theorem v_canE {s cap u q : Nat} (hs : s < 256) (hu : u < 256) (hq : q < 256) (hc : cap ≤ 8) : m_can s q (nI u ||| nI s) (nI cap) = 0 ↔ ¬ v_go s cap u q := by
  have h8 := v_pc8 q
  have hus := v_or_256 hu hs
  have huq := v_or_256 hq hus
  have hqs : q &&& s < 256 := Nat.lt_of_le_of_lt Nat.and_le_left hq
  have eor : (∀ a, q.testBit a = true → (u ||| s).testBit a = true) ↔ ∀ a, q.testBit a = true → u.testBit a = true ∨ s.testBit a = true := by
    constructor
    · intro h a ha
      have := h a ha
      rw [v_or_b] at this
      revert this
      cases u.testBit a <;> cases s.testBit a <;> simp
    · intro h a ha
      have := h a ha
      rw [v_or_b]
      revert this
      cases u.testBit a <;> cases s.testBit a <;> simp
  unfold m_can v_go
  rw [nI_or, nI_and, nI_or, v_count hq]
  by_cases c1 : nI (q &&& s) = nI s
  · rw [if_pos c1]
    rw [nI_eq (by omega) (by omega), v_sbs] at c1
    by_cases c2 : nI (q ||| (u ||| s)) = nI (u ||| s)
    · rw [if_pos c2]
      rw [nI_eq (by omega) (by omega), v_sbs2, eor] at c2
      by_cases c3 : nI cap < nI (v_pc q)
      · rw [if_pos c3]
        rw [nI_ltI (by omega) (by omega)] at c3
        exact ⟨fun _ g => by have := g.2.2; omega, fun _ => rfl⟩
      · rw [if_neg c3]
        rw [nI_ltI (by omega) (by omega)] at c3
        exact ⟨fun q => absurd q (by decide), fun g => absurd ⟨c1, c2, by omega⟩ g⟩
    · rw [if_neg c2]
      rw [nI_eq (by omega) (by omega), v_sbs2, eor] at c2
      exact ⟨fun _ g => c2 g.2.1, fun _ => rfl⟩
  · rw [if_neg c1]
    rw [nI_eq (by omega) (by omega), v_sbs] at c1
    exact ⟨fun _ g => c1 g.1, fun _ => rfl⟩
/-- costs are numbers -/
def v_Cs (z : bt_X) (C : Nat → Nat) : Prop := ∀ t, t < 256 → z.1 8 33 t = nI (C t) ∧ C t ≤ 1000000
/-- what has been found from so many magazines -/
def v_Ds (C : Nat → Nat) (s cap k : Nat) (z : bt_X) (D : Nat → Nat) : Prop := ∀ q, q < 256 → z.1 8 34 q = nI (D q) ∧ D q ≤ 1000000 ∧ (D q = 1000000 ∨ ∃ u, u < 256 ∧ C u < 1000000 ∧ v_go s cap u q ∧ D q = C u + v_pc (v_df s u)) ∧
  ∀ u, u < k → C u < 1000000 → v_go s cap u q → D q ≤ C u + v_pc (v_df s u)
theorem v_noE {C : Nat → Nat} {s cap : Nat} (hs : s < 256) (hc : cap ≤ 8) : ∀ (n u : Nat) (z : bt_X) (D : Nat → Nat), u + n = 256 → v_Cs z C → v_Ds C s cap u z D → ∃ D', v_Ds C s cap 256 (m_no s (nI cap) n u z) D' := by
  intro n
  induction n with
  | zero => intro u z D hu hC hD; have : u = 256 := by omega
            subst this; exact ⟨D, hD⟩
  | succ n ih =>
    intro u z D hu hC hD
    unfold m_no
    obtain ⟨c1, c2⟩ := hC u (by omega)
    by_cases e : (1000000 : Int32) ≤ z.1 8 33 u
    · rw [if_pos e]
      rw [c1] at e
      have e2 := (nI_leI (a := 1000000) (b := C u) (by omega) (by omega)).mp e
      refine ih (u + 1) z D (by omega) hC (fun q hq => ?_)
      obtain ⟨g1, g2, g3, g4⟩ := hD q hq
      refine ⟨g1, g2, g3, fun u' hu' h1 h2 => ?_⟩
      by_cases e3 : u' = u
      · subst e3; omega
      · exact g4 u' (by omega) h1 h2
    · rw [if_neg e]
      rw [c1] at e
      have e2 : C u < 1000000 := Nat.lt_of_not_le fun z => e ((nI_leI (a := 1000000) (b := C u) (by omega) (by omega)).mpr z)
      have h8 := v_pc8 (v_df s u)
      have ecst : m_cst s z u = nI (C u + v_pc (v_df s u)) := by
        unfold m_cst
        rw [c1, nI_df, v_count (v_df_256 hs), nI_add]
      rw [ecst]
      obtain ⟨D2, hD2⟩ : ∃ D2 : Nat → Nat, ∀ q, (v_go s cap u q → D2 q = min (D q) (C u + v_pc (v_df s u))) ∧ (¬ v_go s cap u q → D2 q = D q) := ⟨fun q => @ite _ (v_go s cap u q) (Classical.propDecidable _) (min (D q) (C u + v_pc (v_df s u))) (D q), fun q => ⟨fun h => if_pos h, fun h => if_neg h⟩⟩
      refine ih (u + 1) _ D2 (by omega) (fun t ht => ?_) (fun q hq => ?_)
      · rw [m_ni_n (by omega)]; exact hC t ht
      · obtain ⟨g1, g2, g3, g4⟩ := hD q hq
        rw [m_ni_34]
        have ecan := v_canE hs (show u < 256 by omega) hq hc
        by_cases f : v_go s cap u q
        · have hsq : s ≤ q := by
            have := v_sbs.mpr f.1
            rw [← this]
            exact Nat.and_le_left
          rw [if_pos (show s ≤ q ∧ q < s + (256 - s) by omega), if_neg (fun z => ecan.mp z f), g1]
          rw [(hD2 q).1 f]
          refine ⟨?_, by omega, ?_, fun u' hu' h1 h2 => ?_⟩
          · by_cases v : D q ≤ C u + v_pc (v_df s u)
            · rw [if_pos ((nI_leI (by omega) (by omega)).mpr v), Nat.min_eq_left v]
            · rw [if_neg (fun z => v ((nI_leI (by omega) (by omega)).mp z)), Nat.min_eq_right (by omega)]
          · by_cases v : D q ≤ C u + v_pc (v_df s u)
            · rw [Nat.min_eq_left v]; exact g3
            · rw [Nat.min_eq_right (by omega)]; exact Or.inr ⟨u, by omega, e2, f, rfl⟩
          · by_cases e3 : u' = u
            · subst e3; omega
            · have := g4 u' (by omega) h1 h2; omega
        · rw [(hD2 q).2 f]
          have ez : (if s ≤ q ∧ q < s + (256 - s) then (if m_can s q (nI u ||| nI s) (nI cap) = 0 then z.1 8 34 q else if z.1 8 34 q ≤ nI (C u + v_pc (v_df s u)) then z.1 8 34 q else nI (C u + v_pc (v_df s u))) else z.1 8 34 q) = z.1 8 34 q := by
            split
            · rw [if_pos (ecan.mpr f)]
            · rfl
          rw [ez]
          refine ⟨g1, g2, g3, fun u' hu' h1 h2 => ?_⟩
          by_cases e3 : u' = u
          · subst e3; exact absurd h2 f
          · exact g4 u' (by omega) h1 h2
theorem m_nz_34 {q : Nat} : ∀ (n p : Nat) (z : bt_X), (m_nz n p z).1 8 34 q = if p ≤ q ∧ q < p + n then (1000000 : Int32) else z.1 8 34 q := by
  intro n
  induction n with
  | zero => intro p z; rw [if_neg (show ¬ (p ≤ q ∧ q < p + 0) by omega)]; rfl
  | succ n ih =>
    intro p z
    unfold m_nz
    rw [ih]
    by_cases c : q = p
    · subst c
      rw [if_neg (show ¬ (q + 1 ≤ q ∧ q < q + 1 + n) by omega), if_pos (show q ≤ q ∧ q < q + (n + 1) by omega), b_gs_at]
    · rw [b_gs_ne (by omega)]
      by_cases d : p + 1 ≤ q ∧ q < p + 1 + n
      · rw [if_pos d, if_pos (show p ≤ q ∧ q < p + (n + 1) by omega)]
      · rw [if_neg d, if_neg (show ¬ (p ≤ q ∧ q < p + (n + 1)) by omega)]
theorem m_nz_33 {q : Nat} : ∀ (n p : Nat) (z : bt_X), (m_nz n p z).1 8 33 q = z.1 8 33 q := by
  intro n
  induction n with
  | zero => intro p z; rfl
  | succ n ih => intro p z; unfold m_nz; rw [ih, b_gs_ne (by omega)]
theorem m_nc_33 {q : Nat} : ∀ (n p : Nat) (z : bt_X), (m_nc n p z).1 8 33 q = if p ≤ q ∧ q < p + n then z.1 8 34 q else z.1 8 33 q := by
  intro n
  induction n with
  | zero => intro p z; rw [if_neg (show ¬ (p ≤ q ∧ q < p + 0) by omega)]; rfl
  | succ n ih =>
    intro p z
    unfold m_nc
    rw [ih]
    by_cases c : q = p
    · subst c
      rw [if_neg (show ¬ (q + 1 ≤ q ∧ q < q + 1 + n) by omega), if_pos (show q ≤ q ∧ q < q + (n + 1) by omega), b_gs_at]
    · rw [b_gs_ne (by omega), b_gs_ne (by omega)]
      by_cases d : p + 1 ≤ q ∧ q < p + 1 + n
      · rw [if_pos d, if_pos (show p ≤ q ∧ q < p + (n + 1) by omega)]
      · rw [if_neg d, if_neg (show ¬ (p ≤ q ∧ q < p + (n + 1)) by omega)]
/-- one operation more -/
theorem v_needs {C : Nat → Nat} {s cap : Nat} (hs : s < 256) (hc : cap ≤ 8) (hC : v_Cs z C) : ∃ D, v_Cs (m_needs s (nI cap) z) D ∧ (∀ q, q < 256 → D q = 1000000 ∨ ∃ u, u < 256 ∧ C u < 1000000 ∧ v_go s cap u q ∧ D q = C u + v_pc (v_df s u)) ∧
    ∀ q u, q < 256 → u < 256 → C u < 1000000 → v_go s cap u q → D q ≤ C u + v_pc (v_df s u) := by
  obtain ⟨D, hD⟩ := v_noE (C := C) hs hc 256 0 (m_nz m_256 0 z) (fun _ => 1000000) (by omega) (fun t ht => by rw [m_nz_33]; exact hC t ht) (fun q hq => ⟨by rw [m_nz_34, m_256_e, if_pos (by omega)]; rfl, Nat.le_refl _, Or.inl rfl, fun u hu => by omega⟩)
  refine ⟨D, fun t ht => ?_, fun q hq => (hD q hq).2.2.1, fun q u hq hu h1 h2 => (hD q hq).2.2.2 u hu h1 h2⟩
  unfold m_needs
  rw [m_nc_33, m_256_e, if_pos (by omega)]
  have := hD t ht
  rw [m_256_e] at this
  exact ⟨this.1, this.2.1⟩
/-- the two, behind so many operations -/
def v_DP (f : Nat → Nat) (L : List Nat) (G P : Nat) (z : bt_X) : Prop := ∃ C, v_Cs z C ∧ (∀ t, t < 256 → C t = 1000000 ∨ ∀ d, P + v_c (fun a => t.testBit a && v_us f L d a) ≤ C t + v_c (fun a => G.testBit a && v_us f L d a)) ∧ C G ≤ P
theorem v_DPs {f : Nat → Nat} {o s cap G G' P : Nat} {os : List Nat} (hs : f o = s) (hs256 : s < 256) (hc : cap ≤ 8) (hG : G < 256) (hG' : G' < 256) (hP : P < 1000000) (hcG : v_pc G' ≤ cap)
    (hG1 : ∀ a, s.testBit a = true → G'.testBit a = true) (hG2 : ∀ a, G'.testBit a = true → G.testBit a = true ∨ s.testBit a = true)
    (hev : ∀ e, G.testBit e = true → G'.testBit e = false → cap ≤ v_pc G' ∧ ∀ d, v_us f os d e = true → ∀ b, G'.testBit b = true → s.testBit b = false → v_us f os d b = true)
    (h : v_DP f (o :: os) G P z) : v_DP f os G' (P + v_pc (v_df s G)) (m_needs s (nI cap) z) := by
  obtain ⟨C, h1, h2, h3⟩ := h
  obtain ⟨D, g1, g2, g3⟩ := v_needs hs256 hc h1
  refine ⟨D, g1, fun t ht => ?_, ?_⟩
  · rcases g2 t ht with q | ⟨u, u1, u2, u3, u4⟩
    · exact Or.inl q
    · refine Or.inr (fun d => ?_)
      rw [u4]
      rcases h2 u u1 with q | q
      · omega
      · exact v_bel hs hG1 hG2 hev u3.1 u3.2.1 u3.2.2 q d
  · have := g3 G' G hG' hG (by omega) ⟨hG1, hG2, hcG⟩
    omega
theorem v_lmE {C : Nat → Nat} (hC : v_Cs z C) : ∀ (n p l : Nat), n + p = 256 → l ≤ 1000000 → ∃ M, m_lm z n p (nI l) = nI M ∧ M ≤ l ∧ (∀ t, p ≤ t → t < 256 → M ≤ C t) ∧ (M = l ∨ ∃ t, t < 256 ∧ M = C t) := by
  intro n
  induction n with
  | zero => intro p l hp hl; exact ⟨l, rfl, Nat.le_refl _, fun t h1 h2 => by omega, Or.inl rfl⟩
  | succ n ih =>
    intro p l hp hl
    obtain ⟨c1, c2⟩ := hC p (by omega)
    unfold m_lm
    have e : (if nI l ≤ z.1 8 33 p then nI l else z.1 8 33 p) = nI (min l (C p)) := by
      rw [c1]
      by_cases v : l ≤ C p
      · rw [if_pos ((nI_leI (by omega) (by omega)).mpr v), Nat.min_eq_left v]
      · rw [if_neg (fun z => v ((nI_leI (by omega) (by omega)).mp z)), Nat.min_eq_right (by omega)]
    rw [e]
    obtain ⟨M, g1, g2, g3, g4⟩ := ih (p + 1) (min l (C p)) (by omega) (by omega)
    refine ⟨M, g1, by omega, fun t h1 h2 => ?_, ?_⟩
    · by_cases e2 : t = p
      · subst e2; omega
      · exact g3 t (by omega) h2
    · rcases g4 with g4 | g4
      · rcases Nat.le_total l (C p) with q | q
        · exact Or.inl (by omega)
        · exact Or.inr ⟨p, by omega, by omega⟩
      · exact Or.inr g4
theorem m_lz_33 {q : Nat} : ∀ (n p : Nat) (z : bt_X), (m_lz n p z).1 8 33 q = if p ≤ q ∧ q < p + n then (if nI q = 0 then nI 0 else (1000000 : Int32)) else z.1 8 33 q := by
  intro n
  induction n with
  | zero => intro p z; rw [if_neg (show ¬ (p ≤ q ∧ q < p + 0) by omega)]; rfl
  | succ n ih =>
    intro p z
    unfold m_lz
    rw [ih]
    by_cases c : q = p
    · subst c
      rw [if_neg (show ¬ (q + 1 ≤ q ∧ q < q + 1 + n) by omega), if_pos (show q ≤ q ∧ q < q + (n + 1) by omega), b_gs_at]
    · rw [b_gs_ne (by omega)]
      by_cases d : p + 1 ≤ q ∧ q < p + 1 + n
      · rw [if_pos d, if_pos (show p ≤ q ∧ q < p + (n + 1) by omega)]
      · rw [if_neg d, if_neg (show ¬ (p ≤ q ∧ q < p + (n + 1)) by omega)]
theorem v_lr (h : v_Inv σ x) {m cap : Nat} (hm : m < b_nm σ) (hcap : σ.1 1 m 1 = nI cap) (hc8 : cap ≤ 8) (hT : ∀ i ∈ x.2.2 (4 + m), v_pc (v_f σ i) ≤ cap) : ∀ (n k G P : Nat) (z : bt_X), k + n = (x.2.2 (4 + m)).length → G < 256 → P ≤ 8 * k → v_Rd σ x z → v_DP (v_f σ) ((x.2.2 (4 + m)).drop k) G P z →
    ∃ P', b_ll σ x m k ((x.2.2 (4 + m)).drop k) (nI G) (nI P) = nI P' ∧ P' ≤ 8 * (x.2.2 (4 + m)).length ∧ ∃ G', G' < 256 ∧ v_DP (v_f σ) [] G' P' (m_lr σ m n k z) := by
  have hl := v_len h.1.1.1 h.1.2.1 hm
  have hw : ∀ i ∈ x.2.2 (4 + m), m_w 256 (σ.1 2 i 5) := fun i hi => (h.1.1.2.1 i ((h.1.2.1.1 m hm).2 i hi).1).2.2.2.2.2.2
  intro n
  induction n with
  | zero =>
    intro k G P z hk hG hP hR hD
    rw [List.drop_eq_nil_of_le (by omega)] at hD ⊢
    exact ⟨P, rfl, by omega, G, hG, hD⟩
  | succ n ih =>
    intro k G P z hk hG hP hR hD
    have hkl : k < (x.2.2 (4 + m)).length := by omega
    have hg := List.getElem?_eq_getElem hkl
    have hmo := List.mem_of_getElem? hg
    have ed := List.drop_eq_getElem_cons hkl
    rw [ed] at hD ⊢
    obtain ⟨G', g1, g2, g3, g4, g5, g6⟩ := v_llS (P := P) ed hw hcap hc8 (hT _ hmo) hG
    rw [g1]
    have hop := ((h.1.2.1.1 m hm).2 _ hmo).1
    have e24 : m_tl σ (m_ro z m k) = v_f σ (x.2.2 (4 + m))[k] := by
      rw [hR.2.2 m hm k _ hg]
      unfold m_tl v_f
      rw [(h.2.2.1.2.2.2.1 _ hop).2.2.2]
    have h8 := v_pc8 (v_df (v_f σ (x.2.2 (4 + m))[k]) G)
    unfold m_lr
    rw [e24, (h.2.2.1.2.2.2.2.1 m hm).1, hcap]
    refine ih (k + 1) G' _ _ (by omega) g2 (by omega) (hR.ext (fun _ _ => rfl) (fun i k hi => m_needs_n (by omega))) ?_
    exact v_DPs rfl (hw _ hmo).l hc8 hG g2 (by omega) g3 g4 g5 g6 hD
theorem m_needs_2 {s : Nat} {cap : Int32} : (m_needs s cap z).2 = z.2 := by
  have h1 : ∀ (n p : Nat) (z : bt_X), (m_nz n p z).2 = z.2 := by
    intro n
    induction n with
    | zero => intro p z; rfl
    | succ n ih => intro p z; exact ih _ _
  have h2 : ∀ (s : Nat) (al cap cost : Int32) (n t : Nat) (z : bt_X), (m_ni s al cap cost n t z).2 = z.2 := by
    intro s al cap cost n
    induction n with
    | zero => intro t z; rfl
    | succ n ih => intro t z; exact ih _ _
  have h3 : ∀ (n u : Nat) (z : bt_X), (m_no s cap n u z).2 = z.2 := by
    intro n
    induction n with
    | zero => intro u z; rfl
    | succ n ih =>
      intro u z
      unfold m_no
      rw [ih]
      split
      · rfl
      · exact h2 _ _ _ _ _ _ _
  have h4 : ∀ (n p : Nat) (z : bt_X), (m_nc n p z).2 = z.2 := by
    intro n
    induction n with
    | zero => intro p z; rfl
    | succ n ih => intro p z; exact ih _ _
  unfold m_needs
  rw [h4, h3, h1]
theorem m_lr_f {m : Nat} : ∀ (n k : Nat) (z : bt_X), (m_lr σ m n k z).2 = z.2 ∧ ∀ c i k', ¬ (c = 8 ∧ (i = 33 ∨ i = 34)) → (m_lr σ m n k z).1 c i k' = z.1 c i k' := by
  intro n
  induction n with
  | zero => intro k z; exact ⟨rfl, fun _ _ _ _ => rfl⟩
  | succ n ih =>
    intro k z
    obtain ⟨g1, g2⟩ := ih (k + 1) (m_needs (m_tl σ (m_ro z m k)) (σ.1 8 12 m) z)
    exact ⟨g1.trans m_needs_2, fun c i k' hc => (g2 c i k' hc).trans (m_needs_n hc)⟩
theorem m_lz_2 : ∀ (n p : Nat) (z : bt_X), (m_lz n p z).2 = z.2 := by
  intro n
  induction n with
  | zero => intro p z; rfl
  | succ n ih => intro p z; exact ih _ _
theorem s_load (h : v_Inv σ x) {a : Int32} (hX : v_cX x w) (hr : v_rA x w) : v_Ok (b_load1 σ x a) z_loads (m_loads σ w a |> fun r => (r.1, σ, r.2)) := by
  have hw := h.go hX hr
  unfold b_load1 m_loads
  rw [v_nm h]
  cases e : b_ix (b_nm σ) a with
  | none => exact ⟨hw.thr, m_thr_at, fun u hu => by cases hu⟩
  | some m =>
    obtain ⟨-, hm⟩ := v_ixe (by have := v_nm5 h; omega) e
    have hl := v_len h.1.1.1 h.1.2.1 hm
    obtain ⟨cap, t, t1, t2, t3, t4, t5, t6, -⟩ := h.1.1.2.2.2.2.2 m hm
    obtain ⟨k1, k2⟩ := m_lr_f (σ := σ) (m := m) (m_rn w m) 0 (m_lz m_256 0 (m_thr w (nI 0)))
    have f2 : (m_lds σ w m).2 = w.2 := by
      unfold m_lds
      rw [k1, m_lz_2]
      rfl
    have f1 : ∀ c i k', ¬ (c = 8 ∧ (i = 33 ∨ i = 34)) → (m_lds σ w m).1 c i k' = (m_thr w (nI 0)).1 c i k' := fun c i k' hc => by
      unfold m_lds
      rw [k2 c i k' hc, m_lz_n (by omega)]
    have hI : v_Inv σ (m_lds σ w m) := hw.mv ⟨by rw [f2], fun _ _ => by rw [f2], fun c i k hc _ => by rw [f1 c i k (by omega), m_thr_n (by omega)]⟩ (fun i k hi => by rw [f1 8 i k (by omega), m_thr_n (by omega)])
    refine ⟨hI, ?_, fun u hu => ?_⟩
    · show (m_lds σ w m).1 6 0 0 = nI 0
      rw [f1 6 0 0 (by omega)]
      exact m_thr_at
    · cases hu
      show m_lm (m_lds σ w m) m_256 0 (nI 1000000) = b_loads σ x m
      have hRd : v_Rd σ x (m_lz m_256 0 (m_thr w (nI 0))) := h.2.2.2.ext (fun _ _ => rfl) (fun i k hi => by rw [m_lz_n (by omega), m_thr_n (by omega), hr 8 i k (by omega)])
      have hD0 : v_DP (v_f σ) ((x.2.2 (4 + m)).drop 0) 0 0 (m_lz m_256 0 (m_thr w (nI 0))) := by
        refine ⟨fun t => if t = 0 then 0 else 1000000, fun t ht => ?_, fun t ht => ?_, Nat.le_refl _⟩
        · rw [m_lz_33, m_256_e, if_pos (show 0 ≤ t ∧ t < 0 + 256 by omega)]
          by_cases c : t = 0
          · subst c; exact ⟨rfl, Nat.zero_le _⟩
          · rw [if_neg (fun q => c ((v_nI0 ht).mp q))]
            simp only [if_neg c]
            exact ⟨rfl, Nat.le_refl _⟩
        · by_cases c : t = 0
          · subst c; exact Or.inr (fun d => Nat.le_refl _)
          · exact Or.inl (if_neg c)
      have en : m_rn w m = (x.2.2 (4 + m)).length := by rw [(v_rl hw hm).1, hX.2.1 _ (by omega)]
      obtain ⟨P, g1, g2, G, g3, C, g4, g5, g6⟩ := v_lr h hm t1 t3 (fun i hi => by
        obtain ⟨q1, q2⟩ := (h.1.2.1.1 m hm).2 i hi
        have := t6 i q1 q2
        unfold v_f
        omega) (x.2.2 (4 + m)).length 0 0 0 _ (Nat.zero_add _) (by omega) (by omega) hRd hD0
      rw [← en] at g4
      obtain ⟨M, q1, q2, q3, q4⟩ := v_lmE (z := m_lds σ w m) (C := C) g4 m_256 0 1000000 m_256_e (Nat.le_refl _)
      rw [q1]
      have e1 : b_loads σ x m = nI P := g1
      rw [e1]
      have u1 := q3 G (Nat.zero_le _) g3
      have u2 : P ≤ M := by
        rcases q4 with q4 | ⟨t, ht, q4⟩
        · omega
        · rcases g5 t ht with q | q
          · omega
          · have := q 0
            have e0 : ∀ s : Nat, v_c (fun a => s.testBit a && v_us (v_f σ) [] 0 a) = 0 := fun s => by
              have : (fun a => s.testBit a && v_us (v_f σ) [] 0 a) = fun _ => false := by
                funext a
                rw [v_us_nil, Bool.and_false]
              rw [this]
              rfl
            rw [e0, e0] at this
            omega
      congr 1
      omega
end VB2
