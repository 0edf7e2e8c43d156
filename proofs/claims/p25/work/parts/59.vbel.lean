/-! ===== loads: sets of tools, and taking out what is needed last ===== -/
section VB1
variable {σ x : bt_X}
theorem nI_or {s t : Nat} : nI s ||| nI t = nI (s ||| t) := by
  apply Int32.toBitVec_inj.mp
  rw [Int32.toBitVec_or]
  exact (BitVec.ofNat_or ..).symm
theorem nI_and {s t : Nat} : nI s &&& nI t = nI (s &&& t) := by
  apply Int32.toBitVec_inj.mp
  rw [Int32.toBitVec_and]
  exact (BitVec.ofNat_and ..).symm
/-- without -/
def v_df (s t : Nat) : Nat := s ^^^ (s &&& t)
theorem nI_df {s t : Nat} : nI s &&& (nI t ^^^ (-1 : Int32)) = nI (v_df s t) := by
  apply Int32.toBitVec_inj.mp
  rw [Int32.toBitVec_and, Int32.toBitVec_xor]
  show BitVec.ofNat 32 s &&& (BitVec.ofNat 32 t ^^^ BitVec.allOnes 32) = BitVec.ofNat 32 (s ^^^ (s &&& t))
  rw [BitVec.ofNat_xor, BitVec.ofNat_and]
  generalize BitVec.ofNat 32 s = a
  generalize BitVec.ofNat 32 t = b
  apply BitVec.eq_of_getLsbD_eq
  intro i hi
  rw [BitVec.getLsbD_and, BitVec.getLsbD_xor, BitVec.getLsbD_xor, BitVec.getLsbD_and, BitVec.getLsbD_allOnes]
  simp only [hi, decide_true]
  cases a.getLsbD i <;> cases b.getLsbD i <;> rfl
theorem v_df_b {s t a : Nat} : (v_df s t).testBit a = (s.testBit a && !t.testBit a) := by
  unfold v_df
  rw [Nat.testBit_xor, Nat.testBit_and]
  cases s.testBit a <;> cases t.testBit a <;> rfl
theorem v_or_b {s t a : Nat} : (s ||| t).testBit a = (s.testBit a || t.testBit a) := Nat.testBit_or ..
theorem v_256 {s : Nat} : s < 256 ↔ ∀ a, 8 ≤ a → s.testBit a = false := by
  constructor
  · intro h a ha
    exact Nat.testBit_lt_two_pow (Nat.lt_of_lt_of_le h (show 2 ^ 8 ≤ 2 ^ a from Nat.pow_le_pow_right (by omega) ha))
  · intro h
    exact Nat.lt_pow_two_of_testBit (n := 8) s (fun i hi => h i hi)
theorem v_df_256 {s t : Nat} (h : s < 256) : v_df s t < 256 := v_256.mpr fun a ha => by rw [v_df_b, v_256.mp h a ha]; rfl
theorem v_or_256 {s t : Nat} (h : s < 256) (h2 : t < 256) : s ||| t < 256 := v_256.mpr fun a ha => by rw [v_or_b, v_256.mp h a ha, v_256.mp h2 a ha]; rfl
/-- how many of eight -/
def v_c (P : Nat → Bool) : Nat := (P 0).toNat + (P 1).toNat + (P 2).toNat + (P 3).toNat + (P 4).toNat + (P 5).toNat + (P 6).toNat + (P 7).toNat
theorem v_pc_c {s : Nat} : v_pc s = v_c (fun a => s.testBit a) := by
  unfold v_pc v_c
  simp only [Nat.toNat_testBit]
  simp
theorem v_c3 {P Q R P' Q' R' : Nat → Bool} (h : ∀ a, a < 8 → (P a).toNat + (Q a).toNat + (R a).toNat ≤ (P' a).toNat + (Q' a).toNat + (R' a).toNat) : v_c P + v_c Q + v_c R ≤ v_c P' + v_c Q' + v_c R' := by
  unfold v_c
  have h0 := h 0 (by omega)
  have h1 := h 1 (by omega)
  have h2 := h 2 (by omega)
  have h3 := h 3 (by omega)
  have h4 := h 4 (by omega)
  have h5 := h 5 (by omega)
  have h6 := h 6 (by omega)
  have h7 := h 7 (by omega)
  omega
theorem v_c2 {P Q P' Q' : Nat → Bool} (h : ∀ a, a < 8 → (P a).toNat + (Q a).toNat ≤ (P' a).toNat + (Q' a).toNat) : v_c P + v_c Q ≤ v_c P' + v_c Q' := by
  have := v_c3 (P := P) (Q := Q) (R := fun _ => false) (P' := P') (Q' := Q') (R' := fun _ => false) (fun a ha => by have := h a ha; omega)
  omega
theorem v_c0 : v_c (fun _ => false) = 0 := rfl
/-- needed among the next so many -/
def v_us (f : Nat → Nat) : List Nat → Nat → Nat → Bool
  | o :: os, d + 1, a => (f o).testBit a || v_us f os d a
  | _, _, _ => false
theorem v_us_s {f : Nat → Nat} {o : Nat} {os : List Nat} {d a : Nat} : v_us f (o :: os) (d + 1) a = ((f o).testBit a || v_us f os d a) := rfl
theorem v_us_0 {f : Nat → Nat} {os : List Nat} {a : Nat} : v_us f os 0 a = false := by cases os <;> rfl
theorem v_us_nil {f : Nat → Nat} {d a : Nat} : v_us f [] d a = false := rfl
/-- one step: what was no worse stays so -/
theorem v_bel {f : Nat → Nat} {o s cap G G' u t p c : Nat} {os : List Nat} (hs : f o = s)
    (hG1 : ∀ a, s.testBit a = true → G'.testBit a = true) (hG2 : ∀ a, G'.testBit a = true → G.testBit a = true ∨ s.testBit a = true)
    (hev : ∀ e, G.testBit e = true → G'.testBit e = false → cap ≤ v_pc G' ∧ ∀ d, v_us f os d e = true → ∀ b, G'.testBit b = true → s.testBit b = false → v_us f os d b = true)
    (ht1 : ∀ a, s.testBit a = true → t.testBit a = true) (ht2 : ∀ a, t.testBit a = true → u.testBit a = true ∨ s.testBit a = true) (ht3 : v_pc t ≤ cap)
    (hD : ∀ d, p + v_c (fun a => u.testBit a && v_us f (o :: os) d a) ≤ c + v_c (fun a => G.testBit a && v_us f (o :: os) d a)) (d : Nat) :
    p + v_pc (v_df s G) + v_c (fun a => t.testBit a && v_us f os d a) ≤ c + v_pc (v_df s u) + v_c (fun a => G'.testBit a && v_us f os d a) := by
  rw [v_pc_c, v_pc_c]
  by_cases hx : ∃ e, G.testBit e = true ∧ G'.testBit e = false ∧ v_us f os d e = true
  · obtain ⟨e, x1, x2, x3⟩ := hx
    obtain ⟨y1, y2⟩ := hev e x1 x2
    have y3 := y2 d x3
    have h1 := hD 1
    have h2 : v_c (fun a => (v_df s G).testBit a) + v_c (fun a => G.testBit a && v_us f (o :: os) 1 a) ≤ v_c (fun a => (v_df s u).testBit a) + v_c (fun a => u.testBit a && v_us f (o :: os) 1 a) := v_c2 fun a _ => by
      rw [v_df_b, v_df_b, v_us_s, v_us_0, hs]
      cases s.testBit a <;> cases G.testBit a <;> cases u.testBit a <;> decide
    have h3 : v_c (fun a => t.testBit a && v_us f os d a) + v_c (fun a => G'.testBit a) ≤ v_c (fun a => G'.testBit a && v_us f os d a) + v_c (fun a => t.testBit a) := v_c2 fun a _ => by
      have z1 := y3 a
      have z2 := ht1 a
      revert z1 z2
      cases t.testBit a <;> cases v_us f os d a <;> cases G'.testBit a <;> cases s.testBit a <;> simp
    rw [v_pc_c] at y1 ht3
    omega
  · have hn : ∀ e, G.testBit e = true → v_us f os d e = true → G'.testBit e = true := fun e h1 h2 => by
      cases h : G'.testBit e with
      | true => rfl
      | false => exact absurd ⟨e, h1, h, h2⟩ hx
    have h1 := hD (d + 1)
    have h2 : v_c (fun a => (v_df s G).testBit a) + v_c (fun a => t.testBit a && v_us f os d a) + v_c (fun a => G.testBit a && v_us f (o :: os) (d + 1) a) ≤ v_c (fun a => (v_df s u).testBit a) + v_c (fun a => G'.testBit a && v_us f os d a) + v_c (fun a => u.testBit a && v_us f (o :: os) (d + 1) a) := v_c3 fun a _ => by
      rw [v_df_b, v_df_b, v_us_s, hs]
      have z1 := hn a
      have z2 := ht1 a
      have z3 := ht2 a
      have z4 := hG1 a
      revert z1 z2 z3 z4
      cases t.testBit a <;> cases v_us f os d a <;> cases G'.testBit a <;> cases s.testBit a <;> cases G.testBit a <;> cases u.testBit a <;> simp
    omega
/-! what the class takes out -/
def v_f (σ : bt_X) (o : Nat) : Nat := nN (σ.1 2 o 5)
theorem v_low : ∀ s, s < 256 → s ≠ 0 → ∃ a, a < 8 ∧ nI s &&& -(nI s) = nI (2 ^ a) ∧ s.testBit a = true := by decide +kernel
theorem v_ne0 {s : Nat} (h : s < 256) : s ≠ 0 ↔ ∃ a, s.testBit a = true := by
  constructor
  · exact Nat.exists_testBit_of_ne_zero
  · rintro ⟨a, ha⟩ rfl
    rw [Nat.zero_testBit] at ha
    cases ha
theorem v_nI0 {s : Nat} (h : s < 256) : nI s = 0 ↔ s = 0 := nI_eq (b := 0) (by omega) (by omega)
theorem v_nlGo : ∀ (os : List Nat) (T : Nat), T < 256 → T ≠ 0 → (∀ o ∈ os, m_w 256 (σ.1 2 o 5)) → ∃ L, b_nlGo σ (nI T) os = nI L ∧ L < 256 ∧ L ≠ 0 ∧ (∀ a, L.testBit a = true → T.testBit a = true) ∧ ∀ a, L.testBit a = true → ∀ d, v_us (v_f σ) os d a = true → ∀ b, T.testBit b = true → v_us (v_f σ) os d b = true := by
  intro os
  induction os with
  | nil => intro T hT h0 _; exact ⟨T, rfl, hT, h0, fun _ h => h, fun a _ d h => by rw [v_us_nil] at h; cases h⟩
  | cons o os ih =>
    intro T hT h0 hw
    have e5 : σ.1 2 o 5 = nI (v_f σ o) := (hw o List.mem_cons_self).e
    unfold b_nlGo
    rw [e5, nI_df]
    by_cases c : nI (v_df T (v_f σ o)) = 0
    · rw [if_pos c]
      have c0 := (v_nI0 (v_df_256 hT)).mp c
      refine ⟨T, rfl, hT, h0, fun _ h => h, fun a ha d hd b hb => ?_⟩
      cases d with
      | zero => rw [v_us_0] at hd; cases hd
      | succ d =>
        rw [v_us_s]
        have : (v_df T (v_f σ o)).testBit b = false := by rw [c0, Nat.zero_testBit]
        rw [v_df_b, hb] at this
        revert this
        cases (v_f σ o).testBit b <;> simp
    · rw [if_neg c]
      obtain ⟨L, g1, g2, g3, g4, g5⟩ := ih _ (v_df_256 hT) (fun z => c ((v_nI0 (v_df_256 hT)).mpr z)) (fun o h => hw o (List.mem_cons_of_mem _ h))
      refine ⟨L, g1, g2, g3, fun a ha => ?_, fun a ha d hd b hb => ?_⟩
      · have := g4 a ha
        rw [v_df_b] at this
        revert this
        cases T.testBit a <;> simp
      · cases d with
        | zero => rw [v_us_0] at hd; cases hd
        | succ d =>
          have h1 := g4 a ha
          rw [v_df_b] at h1
          rw [v_us_s] at hd ⊢
          have h2 : v_us (v_f σ) os d a = true := by
            revert h1 hd
            cases (v_f σ o).testBit a <;> cases T.testBit a <;> simp
          cases h3 : (v_f σ o).testBit b with
          | true => rfl
          | false =>
            rw [Bool.false_or]
            exact g5 a ha d h2 b (by rw [v_df_b, hb, h3]; rfl)
theorem v_pow_b {a b : Nat} : (2 ^ a).testBit b = decide (a = b) := Nat.testBit_two_pow ..
theorem v_exS {m j s : Nat} {os : List Nat} (hdr : (x.2.2 (4 + m)).drop (j + 1) = os) (hw : ∀ o ∈ os, m_w 256 (σ.1 2 o 5)) : ∀ (n I : Nat), I < 256 → (∀ a, s.testBit a = true → I.testBit a = true) → n + v_pc s ≤ v_pc I →
    ∃ I', b_ex σ x m (nI s) j n (nI I) = nI I' ∧ I' < 256 ∧ (∀ a, s.testBit a = true → I'.testBit a = true) ∧ (∀ a, I'.testBit a = true → I.testBit a = true) ∧ v_pc I' + n = v_pc I ∧
      ∀ e, I.testBit e = true → I'.testBit e = false → ∀ d, v_us (v_f σ) os d e = true → ∀ b, I'.testBit b = true → s.testBit b = false → v_us (v_f σ) os d b = true := by
  intro n
  induction n with
  | zero => intro I hI h1 _; exact ⟨I, rfl, hI, h1, fun _ h => h, rfl, fun e h2 h3 => by rw [h2] at h3; cases h3⟩
  | succ n ih =>
    intro I hI h1 h2
    have hT := v_df_256 (t := s) hI
    have hpc : v_pc (v_df I s) + v_pc s ≤ v_pc I ∧ v_pc I ≤ v_pc (v_df I s) + v_pc s := by
      rw [v_pc_c, v_pc_c, v_pc_c]
      constructor
      · have := v_c3 (P := fun a => (v_df I s).testBit a) (Q := fun a => s.testBit a) (R := fun _ => false) (P' := fun a => I.testBit a) (Q' := fun _ => false) (R' := fun _ => false) (fun a _ => by
          rw [v_df_b]
          have := h1 a
          revert this
          cases I.testBit a <;> cases s.testBit a <;> simp)
        have e0 := v_c0
        omega
      · have := v_c3 (P := fun a => I.testBit a) (Q := fun _ => false) (R := fun _ => false) (P' := fun a => (v_df I s).testBit a) (Q' := fun a => s.testBit a) (R' := fun _ => false) (fun a _ => by
          rw [v_df_b]
          cases I.testBit a <;> cases s.testBit a <;> simp)
        have e0 := v_c0
        omega
    have hT0 : v_df I s ≠ 0 := fun z => by rw [z] at hpc; have : v_pc 0 = 0 := rfl; omega
    obtain ⟨L, g1, g2, g3, g4, g5⟩ := v_nlGo os _ hT hT0 hw
    obtain ⟨a, ha, q1, q2⟩ := v_low L g2 g3
    have haT := g4 a q2
    rw [v_df_b] at haT
    have haI : I.testBit a = true := by revert haT; cases I.testBit a <;> simp
    have has : s.testBit a = false := by revert haT; cases s.testBit a <;> simp
    have eb : b_nl σ x m (nI I &&& (nI s ^^^ (-1 : Int32))) (j + 1) = nI (2 ^ a) := by
      unfold b_nl
      rw [nI_df, hdr, g1, q1]
    have hI1 := v_df_256 (t := 2 ^ a) hI
    have b1 : ∀ b, (v_df I (2 ^ a)).testBit b = (I.testBit b && !decide (a = b)) := fun b => by rw [v_df_b, v_pow_b]
    have hpc1 : v_pc (v_df I (2 ^ a)) + 1 = v_pc I := by
      rw [v_pc_c, v_pc_c]
      have k1 := v_c3 (P := fun b => (v_df I (2 ^ a)).testBit b) (Q := fun b => decide (a = b)) (R := fun _ => false) (P' := fun b => I.testBit b) (Q' := fun _ => false) (R' := fun _ => false) (fun b _ => by
        rw [b1]
        by_cases e : a = b
        · subst e; rw [haI]; simp
        · simp [e])
      have k2 := v_c3 (P := fun b => I.testBit b) (Q := fun _ => false) (R := fun _ => false) (P' := fun b => (v_df I (2 ^ a)).testBit b) (Q' := fun b => decide (a = b)) (R' := fun _ => false) (fun b _ => by
        rw [b1]
        by_cases e : a = b
        · subst e; rw [haI]; simp
        · simp [e])
      have e0 := v_c0
      have e1 : v_c (fun b => decide (a = b)) = 1 := by
        rcases (show a = 0 ∨ a = 1 ∨ a = 2 ∨ a = 3 ∨ a = 4 ∨ a = 5 ∨ a = 6 ∨ a = 7 by omega) with e | e | e | e | e | e | e | e <;> subst e <;> rfl
      omega
    obtain ⟨I', u1, u2, u3, u4, u5, u6⟩ := ih (v_df I (2 ^ a)) hI1 (fun b hb => by
      rw [b1, h1 b hb]
      by_cases e : a = b
      · subst e; rw [has] at hb; cases hb
      · simp [e]) (by omega)
    refine ⟨I', ?_, u2, u3, fun b hb => ?_, by omega, fun e he1 he2 d hd b hb1 hb2 => ?_⟩
    · unfold b_ex
      rw [eb, nI_df]
      exact u1
    · have := u4 b hb
      rw [b1] at this
      revert this
      cases I.testBit b <;> simp
    · have hbI : I.testBit b = true := by
        have := u4 b hb1
        rw [b1] at this
        revert this
        cases I.testBit b <;> simp
      by_cases e3 : e = a
      · subst e3
        exact g5 e q2 d hd b (by rw [v_df_b, hbI, hb2]; rfl)
      · exact u6 e (by rw [b1, he1]; simp [Ne.symm e3]) he2 d hd b hb1 hb2
end VB1

