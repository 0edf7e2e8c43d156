/-! ===== remove, swap ===== -/
section VV
variable {σ σ1 σ2 x y z w : bt_X}
theorem v_row_lt (h : v_Inv σ x) {m : Nat} (hm : m < b_nm σ) : (x.2.2 (4 + m)).Pairwise (fun a b => v_s x a < v_s x b) := by
  obtain ⟨hSo, hS⟩ := v_Sx h
  rw [List.pairwise_iff_getElem]
  have key : ∀ d i (hi : i < (x.2.2 (4 + m)).length) (hj : i + d + 1 < (x.2.2 (4 + m)).length), v_s x (x.2.2 (4 + m))[i] < v_s x (x.2.2 (4 + m))[i + d + 1] := by
    intro d
    induction d with
    | zero =>
      intro i hi hj
      have hg := List.getElem?_eq_getElem hj
      have hi2 := hSo.1 m hm _ (List.mem_of_getElem? hg)
      have e8 := (h.1.2.1.2.1 m hm (i + 0 + 1) _ hg).1
      rw [if_neg (by omega), show i + 0 + 1 - 1 = i by omega, List.getElem?_eq_getElem hi] at e8
      obtain ⟨q1, q2⟩ := v_ahead_le h hi2 (Or.inr e8)
      have := (v_lnE h.1.1.2.1 (hS _ q1).1).2.1
      omega
    | succ d ih =>
      intro i hi hj
      have h1 := ih i hi (by omega)
      have hg := List.getElem?_eq_getElem hj
      have hi2 := hSo.1 m hm _ (List.mem_of_getElem? hg)
      have e8 := (h.1.2.1.2.1 m hm (i + (d + 1) + 1) _ hg).1
      rw [if_neg (by omega), show i + (d + 1) + 1 - 1 = i + d + 1 by omega, List.getElem?_eq_getElem (by omega)] at e8
      obtain ⟨q1, q2⟩ := v_ahead_le h hi2 (Or.inr e8)
      omega
  intro i j hi hj hij
  have := key (j - i - 1) i hi (by omega)
  have e : i + (j - i - 1) + 1 = j := by omega
  simp only [e] at this
  exact this
/-- rows taken out of rows: no way round comes of it -/
theorem v_sub_Rk (h : v_Inv σ x) (hW : v_W0 σ y) (hs : ∀ m, m < b_nm σ → (y.2.2 (4 + m)).Sublist (x.2.2 (4 + m))) (hpc : ∀ m', m' < b_nm σ → ∀ i ∈ y.2.2 (4 + m'), i % 4 ≠ 0 → v_in σ y (i - 1)) : v_Rk σ y (v_s x) := by
  obtain ⟨hSo, hS⟩ := v_Sx h
  intro m hm i hi a ha
  have hix := (hs m hm).mem hi
  have hiL := hSo.1 m hm i hix
  rcases ha with ha | ha
  · obtain ⟨q1, q2⟩ := v_ahead_le h hiL (Or.inl ha)
    have := (v_lnE h.1.1.2.1 (hS _ q1).1).2.1
    have hop := (hS i hiL).1
    rw [(h.1.1.2.1 i hop).2.2.2.1] at ha
    split at ha
    · cases ha
    · rename_i c
      cases ha
      exact ⟨by omega, hpc m hm i hi c⟩
  · obtain ⟨k, hk⟩ := v_mem hi
    rw [(hW.2 m hm k i hk).1] at ha
    split at ha
    · cases ha
    · have hp := (v_row_lt h hm).sublist (hs m hm)
      rw [List.pairwise_iff_getElem] at hp
      have h1 := v_lt ha
      have h2 := v_lt hk
      have := hp (k - 1) k h1 h2 (by omega)
      rw [List.getElem?_eq_getElem h1] at ha
      rw [List.getElem?_eq_getElem h2] at hk
      rw [Option.some.inj ha, Option.some.inj hk] at this
      exact ⟨this, m, hm, by rw [← Option.some.inj ha]; exact List.getElem_mem h1⟩
/-- the rows without so many of a job's operations -/
def v_yk (x : bt_X) (j k : Nat) : bt_X := (x.1, x.2.1, fun n => v_kp j k (x.2.2 n))
theorem v_yk_W1 (h : v_Inv σ x) {j k : Nat} : v_W1 σ (v_yk x j k) := fun m hm =>
  ⟨List.Nodup.sublist List.filter_sublist (h.1.2.1.1 m hm).1, fun i hi => (h.1.2.1.1 m hm).2 i (v_kp_mem.mp hi).1⟩
theorem v_tks (h : v_Inv σ x) {j : Nat} (hj : j < b_nj σ) (hp : σ.1 0 j 3 = nI 1) : ∀ (n k : Nat) (z : bt_X), k + n = b_np σ j → v_Rd σ (v_yk x j k) z → m_tok σ j n k z ∧ v_Rd σ (v_yk x j (b_np σ j)) (m_tks σ j n k z) := by
  have hp4 := (h.1.1.1.2.2.2.2 j hj).2
  intro n
  induction n with
  | zero =>
    intro k z hk hR
    have : k = b_np σ j := by omega
    subst this
    exact ⟨trivial, hR⟩
  | succ n ih =>
    intro k z hk hR
    have ed : (4 * j + k) / 4 = j := by omega
    have em : (4 * j + k) % 4 = k := by omega
    have hop : v_op σ (4 * j + k) := ⟨by omega, by rw [ed, em]; omega⟩
    obtain ⟨m, hm, hi⟩ := (h.1.2.2.2.1 _ hop).mpr (by rw [ed]; exact hp)
    have ebm := ((h.1.2.1.1 m hm).2 _ hi).2
    have emc := (h.2.2.1.2.2.2.1 _ hop).1
    have hik : 4 * j + k ∈ v_kp j k (x.2.2 (4 + m)) := v_kp_mem.mpr ⟨hi, by omega⟩
    obtain ⟨q, hq⟩ := v_mem hik
    have hW1 := v_yk_W1 (j := j) (k := k) h
    have hq2 : ((v_yk x j k).2.2 (4 + b_m σ (4 * j + k)))[q]? = some (4 * j + k) := by rw [ebm]; exact hq
    have hmb : b_m σ (4 * j + k) < b_nm σ := by rw [ebm]; exact hm
    have g := v_Rd_takes (y' := v_yk x j (k + 1)) h.1.1.1 hW1 hR emc hmb hq2 (by
      rw [ebm]
      exact v_kp_s (h.1.2.1.1 m hm).1 q hq (by omega)) (fun m' hmm hm' => by
      show v_kp j (k + 1) (x.2.2 (4 + m')) = v_kp j k (x.2.2 (4 + m'))
      unfold v_kp
      refine List.filter_congr (fun a ha => ?_)
      rw [Bool.eq_iff_iff]
      simp only [decide_eq_true_iff]
      constructor
      · intro c d; exact c ⟨d.1, by omega⟩
      · intro c d
        by_cases e : a % 4 < k
        · exact c ⟨d.1, e⟩
        · have ea : a = 4 * j + k := by omega
          have := ((h.1.2.1.1 m' hmm).2 a ha).2
          rw [ea] at this
          exact hm' this.symm)
    obtain ⟨k1, k2⟩ := ih (k + 1) _ (by omega) g
    exact ⟨⟨(v_at h.1.1.1 hW1 hR emc hmb hq2).1, k1⟩, k2⟩
theorem m_has_cg (h : ∀ p, m_mc σ1 p = m_mc σ p) {z : bt_X} {p : Nat} (g : m_has σ z p) : m_has σ1 z p := by unfold m_has at g ⊢; rw [h]; exact g
theorem m_tok_cg (h : ∀ p, m_mc σ1 p = m_mc σ p) {j : Nat} : ∀ (n k : Nat) (z : bt_X), m_tok σ j n k z → m_tok σ1 j n k z := by
  intro n
  induction n with
  | zero => intro k z _; trivial
  | succ n ih => intro k z g; exact ⟨m_has_cg h g.1, by rw [m_takes_cg h]; exact ih _ _ g.2⟩
/-- the rows without a job -/
theorem v_rem_all (h : v_Inv σ x) {j : Nat} (hj : j < b_nj σ) (hp : σ.1 0 j 3 = nI 1) : v_W σ (b_rem j x (σ.2.2 0)) ∧ v_Lk σ (b_rem j x (σ.2.2 0)) ∧ (∃ r, v_Rk σ (b_rem j x (σ.2.2 0)) r) ∧ (b_rem j x (σ.2.2 0)).1 = x.1 ∧
    (∀ m, m < b_nm σ → (b_rem j x (σ.2.2 0)).2.2 (4 + m) = b_keep j (x.2.2 (4 + m))) ∧ ∀ i, v_in σ (b_rem j x (σ.2.2 0)) i ↔ (v_in σ x i ∧ ¬ i / 4 = j) := by
  obtain ⟨hS, hW, hk, hPl, hC, hf⟩ := h.1
  obtain ⟨g1, g2, g3, g4⟩ := v_rem (σ := σ) (j := j) (σ.2.2 0) x (fun m hm => (v_mr hS.1).mp hm) hS.1.nd ⟨hW.1, hW.2.1⟩ hk
  have er : ∀ m, m < b_nm σ → (b_rem j x (σ.2.2 0)).2.2 (4 + m) = b_keep j (x.2.2 (4 + m)) := fun m hm => by
    rw [g4, if_pos ⟨by rw [show 4 + m - 4 = m by omega]; exact (v_mr hS.1).mpr hm, by omega⟩]
  have hin : ∀ i, v_in σ (b_rem j x (σ.2.2 0)) i ↔ (v_in σ x i ∧ ¬ i / 4 = j) := fun i => by
    constructor
    · rintro ⟨m, hm, hi⟩
      rw [er m hm] at hi
      exact ⟨⟨m, hm, (v_keep.mp hi).1⟩, (v_keep.mp hi).2⟩
    · rintro ⟨⟨m, hm, hi⟩, q⟩
      exact ⟨m, hm, by rw [er m hm]; exact v_keep.mpr ⟨hi, q⟩⟩
  have hpc : ∀ m', m' < b_nm σ → ∀ i ∈ (b_rem j x (σ.2.2 0)).2.2 (4 + m'), i % 4 ≠ 0 → v_in σ (b_rem j x (σ.2.2 0)) (i - 1) := fun m' hm' i hi c => by
    rw [er m' hm'] at hi
    obtain ⟨q1, q2⟩ := v_keep.mp hi
    exact (hin _).mpr ⟨hW.2.2.1 m' hm' i q1 c, by omega⟩
  have hc : b_cnt (b_rem j x (σ.2.2 0)) (σ.2.2 0) ≤ 32 := by
    refine Nat.le_trans (b_cnt_le (x := x) (fun m hm => ?_)) hW.2.2.2
    rw [er m ((v_mr hS.1).mp hm)]
    exact List.length_filter_le _ _
  refine ⟨⟨g1.1, g1.2, hpc, hc⟩, g2, ⟨_, v_sub_Rk h g1 (fun m hm => ?_) hpc⟩, g3, er, hin⟩
  rw [er m hm]
  exact List.filter_sublist
theorem s_rem (h : v_Inv σ x) {a : Int32} (hX : v_cX (b_remF σ x a).2.2 w) (hr : v_rA (b_remF σ x a).2.2 w) : v_Ok (b_remF σ x a) z_remove (m_remv (b_remF σ x a).2.1 w a) ∧ ∀ j, b_ix (m_nj (b_remF σ x a).2.1) a = some j → ¬ (b_remF σ x a).2.1.1 8 20 j = 0 → m_tok (b_remF σ x a).2.1 j (m_np (b_remF σ x a).2.1 j) 0 (m_thr w (nI 0)) := by
  have hj8 : b_nj σ ≤ 8 := h.1.1.1.2.2.2.1
  cases e : b_ix (b_nj σ) a with
  | none =>
    have eF : b_remF σ x a = (.inr b_IO, σ, x) := by unfold b_remF b_pj; rw [e]
    rw [eF] at hX hr ⊢
    have em : b_ix (m_nj σ) a = none := by rw [v_nj h]; exact e
    refine ⟨?_, fun j hj => ?_⟩
    · rw [show m_remv ((Sum.inr b_IO, σ, x) : b_R).2.1 w a = (nI 0, σ, m_thr w (nI 1)) by rw [show ((Sum.inr b_IO, σ, x) : b_R).2.1 = σ from rfl]; unfold m_remv; rw [em]]
      exact (h.go hX hr).thrOk rfl (fun u q => by cases q)
    · rw [show ((Sum.inr b_IO, σ, x) : b_R).2.1 = σ from rfl, em] at hj
      cases hj
  | some j =>
    obtain ⟨-, hj⟩ := v_ixe (by omega) e
    have em : b_ix (m_nj σ) a = some j := by rw [v_nj h]; exact e
    have e20 := (h.2.2.1.2.2.2.2.2.2 j hj).2
    by_cases c : σ.1 0 j 3 = 0
    · have eF : b_remF σ x a = (.inr b_IS, σ, x) := by unfold b_remF b_pj; rw [e]; simp only []; rw [if_pos c]
      rw [eF] at hX hr ⊢
      refine ⟨?_, fun j' hj' => ?_⟩
      · rw [show m_remv ((Sum.inr b_IS, σ, x) : b_R).2.1 w a = (nI 0, σ, m_thr w (nI 2)) by rw [show ((Sum.inr b_IS, σ, x) : b_R).2.1 = σ from rfl]; unfold m_remv; rw [em]; simp only []; rw [e20, if_pos c]]
        exact (h.go hX hr).thrOk rfl (fun u q => by cases q)
      · rw [show ((Sum.inr b_IS, σ, x) : b_R).2.1 = σ from rfl, em] at hj'
        cases hj'
        intro q
        exact absurd (e20.trans c) q
    · have hp : σ.1 0 j 3 = nI 1 := by
        rcases (h.1.1.2.2.2.2.1 j hj).2.2 with q | ⟨q, -⟩
        · exact absurd q c
        · exact q
      have enp := h.2.2.1.2.2.1 j (by omega)
      rw [if_pos hj] at enp
      obtain ⟨g1, g2, g3, g4, g5, g6⟩ := v_rem_all h hj hp
      have eF : b_remF σ x a = (.inl (some (.int ((b_all (bt_gs σ 0 j 3 (nI 0)) (b_rem j x (σ.2.2 0))).2.1 4 0 5))), bt_gs σ 0 j 3 (nI 0), (b_all (bt_gs σ 0 j 3 (nI 0)) (b_rem j x (σ.2.2 0))).2) := by unfold b_remF b_pj; rw [e]; simp only []; rw [if_neg c]
      rw [eF] at hX hr ⊢
      have hrx : ∀ i k, i = 15 ∨ i = 16 → (m_thr w (nI 0)).1 8 i k = x.1 8 i k := fun i k hi => by
        rw [m_thr_n (by omega), hr 8 i k (by omega), v_all_n (by omega), g4]
      have hR0 : v_Rd σ (v_yk x j 0) (m_thr w (nI 0)) := h.2.2.2.ext (fun m _ => by
        show v_kp j 0 (x.2.2 (4 + m)) = _
        exact v_kp_0) hrx
      obtain ⟨t1, t2⟩ := v_tks h hj hp (b_np σ j) 0 _ (Nat.zero_add _) hR0
      have em2 : b_ix (m_nj (bt_gs σ 0 j 3 (nI 0))) a = some j := by
        unfold m_nj
        rw [b_gs_ne (by omega)]
        exact em
      have e202 : (bt_gs σ 0 j 3 (nI 0)).1 8 20 j = nI 1 := by rw [b_gs_ne (by omega), e20, hp]
      refine ⟨?_, fun j' hj' _ => ?_⟩
      · have emr : m_remv (bt_gs σ 0 j 3 (nI 0)) w a = m_mvd (bt_gs σ 0 j 3 (nI 0)) j (nI 0) (m_tks σ j (b_np σ j) 0 (m_thr w (nI 0))) := by
          unfold m_remv
          rw [em2]
          simp only []
          rw [e202, if_neg (by decide), v_np_job, enp, m_tks_cg v_mc_job]
        rw [show m_remv ((Sum.inl (some (Value.int ((b_all (bt_gs σ 0 j 3 (nI 0)) (b_rem j x (σ.2.2 0))).2.1 4 0 5))), bt_gs σ 0 j 3 (nI 0), (b_all (bt_gs σ 0 j 3 (nI 0)) (b_rem j x (σ.2.2 0))).2) : b_R).2.1 w a = _ from emr]
        obtain ⟨k1, k2⟩ := m_tks_f (σ := σ) (j := j) (b_np σ j) 0 (m_thr w (nI 0))
        have hRd : v_Rd σ (b_rem j x (σ.2.2 0)) (m_tks σ j (b_np σ j) 0 (m_thr w (nI 0))) := t2.ext (fun m hm => by
          rw [g5 m hm]
          exact (v_kp_n (fun i hi hij => by
            have := ((h.1.2.1.1 m hm).2 i hi).1.2
            rw [hij] at this
            exact this)).symm) (fun _ _ _ => rfl)
        have I := v_moved (w := w) (x2 := m_tks σ j (b_np σ j) 0 (m_thr w (nI 0))) h hj (Or.inl rfl) g1 g2 g3 (fun i hi => by
          rw [g6]
          by_cases e : i / 4 = j
          · rw [if_pos e]
            exact ⟨fun q => absurd e q.2, fun q => absurd q (by decide)⟩
          · rw [if_neg e]
            exact ⟨fun q => q.1, fun q => ⟨q, e⟩⟩) hX ⟨by rw [k1]; rfl, fun _ _ => by rw [k1]; rfl, fun c i k hc _ => by rw [k2 c i k (by omega), m_thr_n (by omega)]⟩ hRd
        exact v_mvOk I (by rw [k2 6 0 0 (by omega)]; exact m_thr_at) rfl rfl (by rw [k2 4 0 5 (by omega), m_thr_n (by omega)]; exact hX.2.2 4 0 5 (by omega) (by omega))
      · rw [show ((Sum.inl (some (Value.int ((b_all (bt_gs σ 0 j 3 (nI 0)) (b_rem j x (σ.2.2 0))).2.1 4 0 5))), bt_gs σ 0 j 3 (nI 0), (b_all (bt_gs σ 0 j 3 (nI 0)) (b_rem j x (σ.2.2 0))).2) : b_R).2.1 = bt_gs σ 0 j 3 (nI 0) from rfl] at hj' ⊢
        rw [em2] at hj'
        cases hj'
        rw [v_np_job, enp]
        exact m_tok_cg v_mc_job _ _ _ t1
end VV

