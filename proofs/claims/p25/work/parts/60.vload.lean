section VB2
variable {σ x z z' w : bt_X}
/-- the class: one operation more -/
theorem v_llS {m j o cap G P : Nat} {os : List Nat} (hdr : (x.2.2 (4 + m)).drop j = o :: os) (hw : ∀ i ∈ x.2.2 (4 + m), m_w 256 (σ.1 2 i 5)) (hcap : σ.1 1 m 1 = nI cap) (hc8 : cap ≤ 8) (hs : v_pc (v_f σ o) ≤ cap) (hG : G < 256) :
    ∃ G', b_ll σ x m j (o :: os) (nI G) (nI P) = b_ll σ x m (j + 1) os (nI G') (nI (P + v_pc (v_df (v_f σ o) G))) ∧ G' < 256 ∧ v_pc G' ≤ cap ∧
      (∀ a, (v_f σ o).testBit a = true → G'.testBit a = true) ∧ (∀ a, G'.testBit a = true → G.testBit a = true ∨ (v_f σ o).testBit a = true) ∧
      ∀ e, G.testBit e = true → G'.testBit e = false → cap ≤ v_pc G' ∧ ∀ d, v_us (v_f σ) os d e = true → ∀ b, G'.testBit b = true → (v_f σ o).testBit b = false → v_us (v_f σ) os d b = true := by
  have hmem : ∀ i ∈ o :: os, i ∈ x.2.2 (4 + m) := fun i hi => List.mem_of_mem_drop (by rw [hdr]; exact hi)
  have ho := hw o (hmem o List.mem_cons_self)
  have e5 : σ.1 2 o 5 = nI (v_f σ o) := ho.e
  have hs256 : v_f σ o < 256 := ho.l
  have hI : G ||| v_f σ o < 256 := v_or_256 hG hs256
  have hdr2 : (x.2.2 (4 + m)).drop (j + 1) = os := by
    rw [← List.tail_drop, hdr]
    rfl
  have hsub : v_pc (v_f σ o) ≤ v_pc (G ||| v_f σ o) := by
    rw [v_pc_c, v_pc_c]
    have := v_c2 (P := fun a => (v_f σ o).testBit a) (Q := fun _ => false) (P' := fun a => (G ||| v_f σ o).testBit a) (Q' := fun _ => false) (fun a _ => by
      rw [v_or_b]
      cases G.testBit a <;> cases (v_f σ o).testBit a <;> simp)
    have e0 := v_c0
    omega
  have hI8 := v_pc8 (G ||| v_f σ o)
  have en : (b_bc (nI (G ||| v_f σ o)) - nI cap).toNatClampNeg = v_pc (G ||| v_f σ o) - cap := by
    rw [v_bc256 _ hI]
    unfold Int32.toNatClampNeg
    rw [pk_sub_toInt (by omega) (by omega)]
    omega
  obtain ⟨G', g1, g2, g3, g4, g5, g6⟩ := v_exS (σ := σ) (x := x) (s := v_f σ o) hdr2 (fun i hi => hw i (hmem i (List.mem_cons_of_mem _ hi))) (v_pc (G ||| v_f σ o) - cap) (G ||| v_f σ o) hI (fun a ha => by rw [v_or_b, ha]; simp) (by omega)
  refine ⟨G', ?_, g2, by omega, g3, fun a ha => ?_, fun e he1 he2 => ⟨?_, g6 e (by rw [v_or_b, he1]; rfl) he2⟩⟩
  · conv => lhs; unfold b_ll
    rw [e5, hcap, nI_or, en, g1, nI_df, v_bc256 _ (v_df_256 hs256), nI_add]
  · have := g4 a ha
    rw [v_or_b] at this
    revert this
    cases G.testBit a <;> cases (v_f σ o).testBit a <;> simp
  · refine Nat.le_of_not_lt fun hlt => ?_
    have e0 : v_pc (G ||| v_f σ o) - cap = 0 := by omega
    rw [e0] at g1
    have e1 : nI (G ||| v_f σ o) = nI G' := g1
    have := (nI_eq (by omega) (by omega)).mp e1
    rw [← this, v_or_b, he1] at he2
    cases he2
end VB2

