/-! ===== remove, swap ===== -/
section VV
variable {σ σ1 σ2 x y z w : bt_X}
theorem v_row_lt (h : v_Inv σ x) {m : Nat} (hm : m < b_nm σ) : (x.2.2 (4 + m)).Pairwise (fun a b => v_s x a < v_s x b) := by
  obtain ⟨hSo, hS⟩ := v_Sx h
  rw [List.pairwise_iff_getElem]
  have key : ∀ d i (hi : i < (x.2.2 (4 + m)).length) (hj : i + d + 1 < (x.2.2 (4 + m)).length), v_s x (x.2.2 (4 + m))[i] < v_s x (x.2.2 (4 + m))[i + d + 1] := by
    intro d
    induction d with
    | zero =>
      intro i hi hj
      have hg := List.getElem?_eq_getElem hj
      have hi2 := hSo.1 m hm _ (List.mem_of_getElem? hg)
      have e8 := (h.1.2.1.2.1 m hm (i + 0 + 1) _ hg).1
      rw [if_neg (by omega), show i + 0 + 1 - 1 = i by omega, List.getElem?_eq_getElem hi] at e8
      obtain ⟨q1, q2⟩ := v_ahead_le h hi2 (Or.inr e8)
      have := (v_lnE h.1.1.2.1 (hS _ q1).1).2.1
      omega
    | succ d ih =>
      intro i hi hj
      have h1 := ih i hi (by omega)
      have hg := List.getElem?_eq_getElem hj
      have hi2 := hSo.1 m hm _ (List.mem_of_getElem? hg)
      have e8 := (h.1.2.1.2.1 m hm (i + (d + 1) + 1) _ hg).1
      rw [if_neg (by omega), show i + (d + 1) + 1 - 1 = i + d + 1 by omega, List.getElem?_eq_getElem (by omega)] at e8
      obtain ⟨q1, q2⟩ := v_ahead_le h hi2 (Or.inr e8)
      omega
  intro i j hi hj hij
  have := key (j - i - 1) i hi (by omega)
  have e : i + (j - i - 1) + 1 = j := by omega
  simp only [e] at this
  exact this
/-- rows taken out of rows: no way round comes of it -/
theorem v_sub_Rk (h : v_Inv σ x) (hW : v_W0 σ y) (hs : ∀ m, m < b_nm σ → (y.2.2 (4 + m)).Sublist (x.2.2 (4 + m))) (hpc : ∀ m', m' < b_nm σ → ∀ i ∈ y.2.2 (4 + m'), i % 4 ≠ 0 → v_in σ y (i - 1)) : v_Rk σ y (v_s x) := by
  obtain ⟨hSo, hS⟩ := v_Sx h
  intro m hm i hi a ha
  have hix := (hs m hm).mem hi
  have hiL := hSo.1 m hm i hix
  rcases ha with ha | ha
  · obtain ⟨q1, q2⟩ := v_ahead_le h hiL (Or.inl ha)
    have := (v_lnE h.1.1.2.1 (hS _ q1).1).2.1
    have hop := (hS i hiL).1
    rw [(h.1.1.2.1 i hop).2.2.2.1] at ha
    split at ha
    · cases ha
    · rename_i c
      cases ha
      exact ⟨by omega, hpc m hm i hi c⟩
  · obtain ⟨k, hk⟩ := v_mem hi
    rw [(hW.2 m hm k i hk).1] at ha
    split at ha
    · cases ha
    · have hp := (v_row_lt h hm).sublist (hs m hm)
      rw [List.pairwise_iff_getElem] at hp
      have h1 := v_lt ha
      have h2 := v_lt hk
      have := hp (k - 1) k h1 h2 (by omega)
      rw [List.getElem?_eq_getElem h1] at ha
      rw [List.getElem?_eq_getElem h2] at hk
      rw [Option.some.inj ha, Option.some.inj hk] at this
      exact ⟨this, m, hm, by rw [← Option.some.inj ha]; exact List.getElem_mem h1⟩
/-- the rows without so many of a job's operations -/
def v_yk (x : bt_X) (j k : Nat) : bt_X := (x.1, x.2.1, fun n => v_kp j k (x.2.2 n))
theorem v_yk_W1 (h : v_Inv σ x) {j k : Nat} : v_W1 σ (v_yk x j k) := fun m hm =>
  ⟨List.Nodup.sublist List.filter_sublist (h.1.2.1.1 m hm).1, fun i hi => (h.1.2.1.1 m hm).2 i (v_kp_mem.mp hi).1⟩
theorem v_tks (h : v_Inv σ x) {j : Nat} (hj : j < b_nj σ) (hp : σ.1 0 j 3 = nI 1) : ∀ (n k : Nat) (z : bt_X), k + n = b_np σ j → v_Rd σ (v_yk x j k) z → m_tok σ j n k z ∧ v_Rd σ (v_yk x j (b_np σ j)) (m_tks σ j n k z) := by
  have hp4 := (h.1.1.1.2.2.2.2 j hj).2
  intro n
  induction n with
  | zero =>
    intro k z hk hR
    have : k = b_np σ j := by omega
    subst this
    exact ⟨trivial, hR⟩
  | succ n ih =>
    intro k z hk hR
    have ed : (4 * j + k) / 4 = j := by omega
    have em : (4 * j + k) % 4 = k := by omega
    have hop : v_op σ (4 * j + k) := ⟨by omega, by rw [ed, em]; omega⟩
    obtain ⟨m, hm, hi⟩ := (h.1.2.2.2.1 _ hop).mpr (by rw [ed]; exact hp)
    have ebm := ((h.1.2.1.1 m hm).2 _ hi).2
    have emc := (h.2.2.1.2.2.2.1 _ hop).1
    have hik : 4 * j + k ∈ v_kp j k (x.2.2 (4 + m)) := v_kp_mem.mpr ⟨hi, by omega⟩
    obtain ⟨q, hq⟩ := v_mem hik
    have hW1 := v_yk_W1 (j := j) (k := k) h
    have hq2 : ((v_yk x j k).2.2 (4 + b_m σ (4 * j + k)))[q]? = some (4 * j + k) := by rw [ebm]; exact hq
    have hmb : b_m σ (4 * j + k) < b_nm σ := by rw [ebm]; exact hm
    have g := v_Rd_takes (y' := v_yk x j (k + 1)) h.1.1.1 hW1 hR emc hmb hq2 (by
      rw [ebm]
      exact v_kp_s (h.1.2.1.1 m hm).1 q hq (by omega)) (fun m' hm' => by
      show v_kp j (k + 1) (x.2.2 (4 + m')) = v_kp j k (x.2.2 (4 + m'))
      unfold v_kp
      refine List.filter_congr (fun a ha => ?_)
      rw [Bool.eq_iff_iff]
      simp only [decide_eq_true_iff]
      constructor
      · intro c d; exact c ⟨d.1, by omega⟩
      · intro c d
        by_cases e : a % 4 < k
        · exact c ⟨d.1, e⟩
        · have ea : a = 4 * j + k := by omega
          by_cases hmm : m' < b_nm σ
          · have := ((h.1.2.1.1 m' hmm).2 a ha).2
            rw [ea] at this
            exact hm' this.symm
          · sorry)
    obtain ⟨k1, k2⟩ := ih (k + 1) _ (by omega) g
    exact ⟨⟨(v_at h.1.1.1 hW1 hR emc hmb hq2).1, k1⟩, k2⟩
end VV
