/-! ===== rush: one answer ===== -/
section VRU
variable {σ x y y' z w : bt_X}
/-! what the reference makes of it is the same, whatever a job is told -/
section CG
variable {j : Nat} {v : Int32}
theorem g_rd : ∀ (n p : Nat) (ch : Int32) (x : bt_X), m_rd (bt_gs σ 0 j 3 v) n p ch x = m_rd σ n p ch x := by
  intro n
  induction n with
  | zero => intro p ch x; rfl
  | succ n ih => intro p ch x; exact ih _ _ _
theorem g_wkL : ∀ (n : Nat) (ch : Int32) (x : bt_X), m_wkL (bt_gs σ 0 j 3 v) n ch x = m_wkL σ n ch x := by
  intro n
  induction n with
  | zero => intro ch x; rfl
  | succ n ih => intro ch x; unfold m_wkL; rw [g_rd, ih]
theorem g_wk {x : bt_X} : m_wk (bt_gs σ 0 j 3 v) x = m_wk σ x := by
  unfold m_wk
  rw [g_wkL]
  rfl
theorem g_wS {x : bt_X} : m_wS (bt_gs σ 0 j 3 v) x = m_wS σ x := by unfold m_wS; rw [g_wk]
theorem g_wOk {x : bt_X} : m_wOk (bt_gs σ 0 j 3 v) x = m_wOk σ x := by unfold m_wOk; rw [g_wk]
theorem g_spn {x : bt_X} : ∀ (n p : Nat) (s : Int32), m_spn (bt_gs σ 0 j 3 v) x n p s = m_spn σ x n p s := by
  intro n
  induction n with
  | zero => intro p s; rfl
  | succ n ih => intro p s; exact ih _ _
theorem g_span {x : bt_X} : m_span (bt_gs σ 0 j 3 v) x = m_span σ x := g_spn _ _ _
theorem g_puts {x : bt_X} {p k : Nat} : m_puts (bt_gs σ 0 j 3 v) x p k = m_puts σ x p k := m_puts_cg v_mc_job
theorem g_takes {x : bt_X} {p : Nat} : m_takes (bt_gs σ 0 j 3 v) x p = m_takes σ x p := m_takes_cg v_mc_job
theorem g_tsp {x : bt_X} {p k : Nat} : m_tsp (bt_gs σ 0 j 3 v) x p k = m_tsp σ x p k := by unfold m_tsp; rw [g_puts, g_wS, g_span]
theorem g_tst {x : bt_X} {p k : Nat} : m_tst (bt_gs σ 0 j 3 v) x p k = m_tst σ x p k := by unfold m_tst; rw [g_puts, g_wS]
theorem g_tsx {x : bt_X} {p k : Nat} : m_tsx (bt_gs σ 0 j 3 v) x p k = m_tsx σ x p k := by unfold m_tsx; rw [g_puts, g_wS, g_takes]
theorem g_less {x : bt_X} {p k : Nat} {b : Option Nat} {s t : Int32} : m_less (bt_gs σ 0 j 3 v) x p k b s t = m_less σ x p k b s t := by
  unfold m_less
  rw [g_tsp, g_tst]
theorem g_try {p : Nat} : ∀ (n k : Nat) (x : bt_X) (b : Option Nat) (s t : Int32), m_try (bt_gs σ 0 j 3 v) p n k x b s t = m_try σ p n k x b s t := by
  intro n
  induction n with
  | zero => intro k x b s t; rfl
  | succ n ih => intro k x b s t; unfold m_try; rw [g_puts, g_wOk, g_less, g_tsp, g_tst, g_tsx, ih, ih]
theorem g_tr {x : bt_X} {p : Nat} : m_tr (bt_gs σ 0 j 3 v) x p = m_tr σ x p := by
  unfold m_tr
  rw [g_try, v_mc_job]
theorem g_rsh1 {x : bt_X} {p : Nat} : m_rsh1 (bt_gs σ 0 j 3 v) x p = m_rsh1 σ x p := by
  unfold m_rsh1
  rw [g_tr, g_puts]
theorem g_rsh {i : Nat} : ∀ (n k : Nat) (x : bt_X), m_rsh (bt_gs σ 0 j 3 v) i n k x = m_rsh σ i n k x := by
  intro n
  induction n with
  | zero => intro k x; rfl
  | succ n ih => intro k x; unfold m_rsh; rw [g_rsh1, ih]
theorem g_rok {i : Nat} : ∀ (n k : Nat) (x : bt_X), m_rok σ i n k x → m_rok (bt_gs σ 0 j 3 v) i n k x := by
  intro n
  induction n with
  | zero => intro k x _; trivial
  | succ n ih => intro k x g; exact ⟨by rw [g_tr]; exact g.1, by rw [g_rsh1]; exact ih _ _ g.2⟩
end CG
theorem v_To_rows (hW : v_W σ y) (hW2 : v_W σ y') (hr : ∀ m, m < b_nm σ → y'.2.2 (4 + m) = y.2.2 (4 + m)) {L : List Nat} (h : v_To σ y L) : v_To σ y' L := by
  obtain ⟨l1, l2, l3⟩ := h
  refine ⟨fun m hm i hi => l1 m hm i (by rw [← hr m hm]; exact hi), fun i hi => ?_, fun n i hn a ha => l3 n i hn a ?_⟩
  · obtain ⟨m, q1, q2⟩ := l2 i hi
    exact ⟨m, q1, by rw [hr m q1]; exact q2⟩
  · refine ha.imp id (fun ha => ?_)
    obtain ⟨m, q1, q2⟩ := l2 i (List.mem_of_getElem? hn)
    obtain ⟨k, hk⟩ := v_mem q2
    rw [(hW2.2.1 m q1 k i (by rw [hr m q1]; exact hk)).1, hr m q1] at ha
    rw [(hW.2.1 m q1 k i hk).1]
    exact ha
/-- all times found: the span is a number below a million -/
theorem v_spanLt (hSt : b_St σ) (hO : v_O σ) (hM : v_M σ) (hS : v_S σ) (hW : v_W σ y) (hC : v_CI σ y) (hf : v_full σ y) : y.1 4 0 5 < (1000000 : Int32) := by
  have hSo := v_CI_So hSt hO hM hS hW hC hf
  obtain ⟨M1, a1, a2, a3, a4, a5⟩ := v_mx_s (x := y) (F := fun i => v_s y i + v_ln σ i) (y.2.2 2) 0 (by decide) (fun i hi => by
    obtain ⟨n, hn⟩ := v_mem hi
    obtain ⟨q1, q2, q3, q4, q5⟩ := v_sol hSt hO hM hS hW hC n i hn
    have := (v_lnE hO q1).2.2
    have := v_lt hn
    have := hSo.2.2.2.2.1
    exact ⟨q3, by omega⟩)
  rw [hC.2.2.2.2.2.2]
  rw [a1]
  exact (nI_ltI (a := M1) (b := 1000000) (by omega) (by omega)).mpr a2
/-- one trial, taken back -/
theorem v_trial (hI : v_IS σ) (hRs : v_Rs σ) {j k pl m : Nat} (hx : ∀ i, i / 4 = j → ¬ v_in σ x i) (hj : j < b_nj σ) (hk : k < b_np σ j) (hc : b_cnt x (σ.2.2 0) + b_np σ j ≤ 32) (h : v_mid σ x y z j k) (hbm : b_m σ (4 * j + k) = m) (hm : m < b_nm σ) (hpl : pl ≤ (y.2.2 (4 + m)).length) :
    v_mid σ x (b_out (b_all σ (b_ins y m pl (4 * j + k))).2 m pl) (m_tsx σ z (4 * j + k) pl) j k ∧ (∀ m', (b_out (b_all σ (b_ins y m pl (4 * j + k))).2 m pl).2.2 (4 + m') = y.2.2 (4 + m')) ∧
    m_wOk σ (m_puts σ z (4 * j + k) pl) = (b_all σ (b_ins y m pl (4 * j + k))).1 ∧
    (¬ (b_all σ (b_ins y m pl (4 * j + k))).1 = 0 → m_tsp σ z (4 * j + k) pl = (b_all σ (b_ins y m pl (4 * j + k))).2.1 4 0 5 ∧ m_tst σ z (4 * j + k) pl = (b_all σ (b_ins y m pl (4 * j + k))).2.1 2 (4 * j + k) 10 ∧ (b_all σ (b_ins y m pl (4 * j + k))).2.1 4 0 5 < (1000000 : Int32) ∧
      v_W σ (b_all σ (b_ins y m pl (4 * j + k))).2 ∧ ∃ L, v_To σ (b_all σ (b_ins y m pl (4 * j + k))).2 L) ∧
    ((∃ L, v_To σ y L) → pl = (y.2.2 (4 + m)).length → ¬ (b_all σ (b_ins y m pl (4 * j + k))).1 = 0) := by
  have hmid := v_mid_ins hI hRs hx hj hk hc h (pl := pl) (by rw [hbm]; exact hpl)
  rw [hbm] at hmid
  obtain ⟨i1, i2, i3, i4, i5⟩ := hmid
  have hp4 := (hI.1.2.2.2.2 j hj).2
  have ed : (4 * j + k) / 4 = j := by omega
  have em : (4 * j + k) % 4 = k := by omega
  have hop : v_op σ (4 * j + k) := ⟨by omega, by rw [ed, em]; exact hk⟩
  have emc := (hRs.2.2.2.1 _ hop).1
  obtain ⟨f1, f2, f3⟩ := v_all hI.1 hI.2.1 i1
  have hsame := v_same hI.1 hI.2.1 hI.2.2.1 hI.2.2.2.1 hRs i1 i3
  have hrow : (b_ins y m pl (4 * j + k)).2.2 (4 + m) = (y.2.2 (4 + m)).insertIdx pl (4 * j + k) := b_ins_l
  generalize hr : b_all σ (b_ins y m pl (4 * j + k)) = r at f1 f2 f3 hsame ⊢
  have erow : r.2.2.2 (4 + m) = (y.2.2 (4 + m)).insertIdx pl (4 * j + k) := (f3 _ (by omega)).trans hrow
  have hback : ∀ m', (b_out r.2 m pl).2.2 (4 + m') = y.2.2 (4 + m') := fun m' => by
    rw [v_out_nr, v_nr_l]
    by_cases e : 4 + m' = 4 + m
    · rw [if_pos e, e, erow]; exact b_ins_out hpl
    · rw [if_neg e, f3 _ (by omega), b_ins_n e]
  have hinR : ∀ i ∈ (r.2.2.2 (4 + m)).eraseIdx pl, v_op σ i ∧ b_m σ i = m := fun i hi => by
    rw [erow, b_ins_out hpl] at hi
    exact (h.1.1 m hm).2 i hi
  have hnd : ((r.2.2.2 (4 + m)).eraseIdx pl).Nodup := by rw [erow, b_ins_out hpl]; exact (h.1.1 m hm).1
  have hcnt : b_cnt (b_out r.2 m pl) (σ.2.2 0) = b_cnt y (σ.2.2 0) := b_cnt_ext (fun m' _ => by rw [hback])
  have hinn : ∀ i, v_in σ (b_out r.2 m pl) i ↔ v_in σ y i := fun i => by
    unfold v_in
    simp only [hback]
  have hW2 : v_W σ (b_out r.2 m pl) := by
    rw [v_out_nr]
    refine v_nr_W f1.2.1 hm hnd hinR (by rw [← v_out_nr, hcnt]; exact h.1.2.2.2) (fun m' hm' i hi h0 => ?_)
    rw [← v_out_nr] at hi ⊢
    rw [hback] at hi
    obtain ⟨m2, q1, q2⟩ := h.1.2.2.1 m' hm' i hi h0
    exact ⟨m2, q1, by rw [hback]; exact q2⟩
  have hk2 : v_Lk σ (b_out r.2 m pl) := by
    rw [v_out_nr]
    exact v_nr_Lk (fun i hi => by rw [f2]; exact i2 i hi) hnd (fun i hi => (hinR i hi).1)
  have hRd : v_Rd σ r.2 (m_wS σ (m_puts σ z (4 * j + k) pl)) := i3.ext (fun m' _ => f3 _ (by omega)) (fun i k hi => m_works_n (by omega))
  have hRd2 : v_Rd σ (b_out r.2 m pl) (m_tsx σ z (4 * j + k) pl) := by
    refine v_Rd_takes (q := pl) hI.1 f1.2.1.1 hRd emc (by rw [hbm]; exact hm) ?_ ?_ (fun m' _ hm' => ?_)
    · rw [hbm, erow, List.getElem?_insertIdx, if_neg (by omega), if_pos rfl, if_pos (by omega)]
    · rw [hbm, v_out_nr, v_nr_l, if_pos rfl]
    · rw [hbm] at hm'
      rw [v_out_nr, v_nr_l, if_neg (by omega)]
  refine ⟨⟨hW2, hk2, hRd2, fun i => by rw [hinn]; exact h.2.2.2.1 i, by rw [hcnt]; exact h.2.2.2.2⟩, hback, hsame.1, fun hne => ?_, fun hT e => ?_⟩
  · have hfull : v_full σ r.2 := by
      rcases f1.2.2 with ⟨-, q⟩ | ⟨q, -⟩
      · exact q
      · exact absurd q hne
    obtain ⟨s1, s2⟩ := hsame.2 hne
    refine ⟨s2, s1 _ (hfull m hm _ ?_), v_spanLt hI.1 hI.2.1 hI.2.2.1 hI.2.2.2.1 f1.2.1 f1.1 hfull, f1.2.1, _, v_CI_To f1.1 hfull⟩
    rw [erow]
    exact (List.mem_insertIdx hpl).mpr (Or.inl rfl)
  · subst e
    obtain ⟨L, hL⟩ := hT
    have := v_To_end hI.2.1 h.1 i1 hm hop (fun q => (h.2.2.2.1 _).mpr (Or.inr ⟨by omega, by omega⟩)) hL
    obtain ⟨g1, -⟩ := v_retime hI.1 hI.2.1 i1 ⟨_, v_To_Rk this⟩
    rw [hr] at g1
    rw [g1]
    decide
/-- rows with one operation more, without a way round -/
def v_gd (σ : bt_X) (R : Nat → List Nat) (m p b : Nat) : Prop := ∃ y0 L, v_W σ y0 ∧ v_To σ y0 L ∧ ∀ m', m' < b_nm σ → y0.2.2 (4 + m') = if m' = m then (R m).insertIdx b p else R m'
/-- the best so far, in both -/
def v_bst (σ : bt_X) (R : Nat → List Nat) (m p bc : Nat) (sc tc : Int32) (br : Option Nat) (sr tr : Int32) : Prop :=
  (br = none ∧ sc = (1000000 : Int32)) ∨ (br = some bc ∧ sc = sr ∧ tc = tr ∧ bc ≤ (R m).length ∧ v_gd σ R m p bc)
theorem v_tryE (hI : v_IS σ) (hRs : v_Rs σ) {j k m : Nat} (hx : ∀ i, i / 4 = j → ¬ v_in σ x i) (hj : j < b_nj σ) (hk : k < b_np σ j) (hc : b_cnt x (σ.2.2 0) + b_np σ j ≤ 32) (hbm : b_m σ (4 * j + k) = m) (hm : m < b_nm σ) {R : Nat → List Nat} :
    ∀ (n q : Nat) (y z : bt_X) (bc : Nat) (sc tc : Int32) (br : Option Nat) (sr tr : Int32), q + n = (R m).length + 1 → v_mid σ x y z j k → (∀ m', y.2.2 (4 + m') = R m') → (∃ L, v_To σ y L) → v_bst σ R m (4 * j + k) bc sc tc br sr tr → (br ≠ none ∨ n ≠ 0) →
    v_mid σ x (b_try σ (4 * j + k) m n q y bc sc tc).2 (m_try σ (4 * j + k) n q z br sr tr).2 j k ∧ (∀ m', (b_try σ (4 * j + k) m n q y bc sc tc).2.2.2 (4 + m') = R m') ∧
    (m_try σ (4 * j + k) n q z br sr tr).1 = some (b_try σ (4 * j + k) m n q y bc sc tc).1 ∧ (b_try σ (4 * j + k) m n q y bc sc tc).1 ≤ (R m).length ∧ v_gd σ R m (4 * j + k) (b_try σ (4 * j + k) m n q y bc sc tc).1 := by
  intro n
  induction n with
  | zero =>
    intro q y z bc sc tc br sr tr hq h hr hT hb hn
    rcases hb with ⟨e, -⟩ | ⟨e, -, -, e2, e3⟩
    · exact absurd e (hn.resolve_right (fun q => q rfl))
    · exact ⟨h, hr, e, e2, e3⟩
  | succ n ih =>
    intro q y z bc sc tc br sr tr hq h hr hT hb hn
    have hql : q ≤ (y.2.2 (4 + m)).length := by rw [hr]; omega
    obtain ⟨t1, t2, t3, t4, t5⟩ := v_trial hI hRs hx hj hk hc h hbm hm hql
    have hT2 : ∃ L, v_To σ (b_out (b_all σ (b_ins y m q (4 * j + k))).2 m q) L := by
      obtain ⟨L, hL⟩ := hT
      exact ⟨L, v_To_rows h.1 t1.1 (fun m' _ => t2 m') hL⟩
    have hr2 : ∀ m', (b_out (b_all σ (b_ins y m q (4 * j + k))).2 m q).2.2 (4 + m') = R m' := fun m' => (t2 m').trans (hr m')
    have ef : ∀ m', (b_all σ (b_ins y m q (4 * j + k))).2.2.2 (4 + m') = if m' = m then (R m).insertIdx q (4 * j + k) else R m' := fun m' => by
      have hmid := v_mid_ins hI hRs hx hj hk hc h (pl := q) (by rw [hbm]; exact hql)
      rw [hbm] at hmid
      rw [v_all_rows hI hmid.1 _ (by omega)]
      by_cases e : m' = m
      · subst e; rw [if_pos rfl, b_ins_l, hr]
      · rw [if_neg e, b_ins_n (by omega), hr]
    unfold b_try m_try
    simp only []
    by_cases c : (b_all σ (b_ins y m q (4 * j + k))).1 = 0
    · rw [if_pos c, if_pos (t3.trans c)]
      refine ih (q + 1) _ _ bc sc tc br sr tr (by omega) t1 hr2 hT2 hb ?_
      refine hn.elim Or.inl (fun _ => ?_)
      refine Or.inr (fun e => ?_)
      exact t5 hT (by rw [hr]; omega) c
    · obtain ⟨u1, u2, u3, u4, L, u5⟩ := t4 c
      have hgd : v_gd σ R m (4 * j + k) q := ⟨_, L, u4, u5, fun m' _ => ef m'⟩
      rw [if_neg c, if_neg (fun e => c (t3.symm.trans e))]
      have take := ih (q + 1) _ _ q ((b_all σ (b_ins y m q (4 * j + k))).2.1 4 0 5) ((b_all σ (b_ins y m q (4 * j + k))).2.1 2 (4 * j + k) 10) (some q) (m_tsp σ z (4 * j + k) q) (m_tst σ z (4 * j + k) q) (by omega) t1 hr2 hT2 (Or.inr ⟨rfl, u1.symm, u2.symm, by omega, hgd⟩) (Or.inl (by simp))
      rcases hb with ⟨e, e2⟩ | ⟨e, e1, e2, e3, e4⟩
      · subst e
        rw [e2, if_pos u3, if_neg (show ¬ m_less σ z (4 * j + k) q none sr tr = 0 from (fun z => absurd z (show ¬ nI 1 = (0 : Int32) by decide)))]
        exact take
      · subst e
        subst e1
        subst e2
        have skip := ih (q + 1) _ _ bc sc tc (some bc) sc tc (by omega) t1 hr2 hT2 (Or.inr ⟨rfl, rfl, rfl, e3, e4⟩) (Or.inl (by simp))
        have el : m_less σ z (4 * j + k) q (some bc) sc tc = if (b_all σ (b_ins y m q (4 * j + k))).2.1 4 0 5 < sc then nI 1 else if (b_all σ (b_ins y m q (4 * j + k))).2.1 4 0 5 = sc then (if tc ≤ (b_all σ (b_ins y m q (4 * j + k))).2.1 2 (4 * j + k) 10 then nI 0 else nI 1) else nI 0 := by
          rw [← u1, ← u2]; rfl
        rw [el]
        by_cases d1 : (b_all σ (b_ins y m q (4 * j + k))).2.1 4 0 5 < sc
        · rw [if_pos d1, if_pos d1, if_neg (by decide)]; exact take
        · rw [if_neg d1, if_neg d1]
          by_cases d2 : (b_all σ (b_ins y m q (4 * j + k))).2.1 4 0 5 = sc
          · rw [if_pos d2, if_pos d2]
            by_cases d3 : tc ≤ (b_all σ (b_ins y m q (4 * j + k))).2.1 2 (4 * j + k) 10
            · rw [if_pos d3, if_pos d3, if_pos (by decide)]; exact skip
            · rw [if_neg d3, if_neg d3, if_neg (by decide)]; exact take
          · rw [if_neg d2, if_neg d2, if_pos (by decide)]; exact skip
theorem v_best1 (hI : v_IS σ) (hRs : v_Rs σ) {j k : Nat} (hx : ∀ i, i / 4 = j → ¬ v_in σ x i) (hj : j < b_nj σ) (hk : k < b_np σ j) (hc : b_cnt x (σ.2.2 0) + b_np σ j ≤ 32) (h : v_mid σ x y z j k) (hT : ∃ L, v_To σ y L) :
    v_mid σ x (b_best σ y (4 * j + k)) (m_rsh1 σ z (4 * j + k)) j (k + 1) ∧ (∃ L, v_To σ (b_best σ y (4 * j + k)) L) ∧ ∃ b, (m_tr σ z (4 * j + k)).1 = some b := by
  have hp4 := (hI.1.2.2.2.2 j hj).2
  have ed : (4 * j + k) / 4 = j := by omega
  have em : (4 * j + k) % 4 = k := by omega
  have hop : v_op σ (4 * j + k) := ⟨by omega, by rw [ed, em]; exact hk⟩
  obtain ⟨⟨m, hm, hm2⟩, -⟩ := hI.2.1 _ hop
  have ebm : b_m σ (4 * j + k) = m := by unfold b_m; rw [hm]; rfl
  have emc := (hRs.2.2.2.1 _ hop).1
  have hm4 : m < 4 := by have := hI.1.2.1; omega
  have ern : m_rn z (m_mc σ (4 * j + k)) = (y.2.2 (4 + m)).length := by rw [emc, ebm, h.2.2.1.2.1 m hm4, if_pos hm2]
  obtain ⟨g1, g2, g3, g4, g5⟩ := v_tryE hI hRs hx hj hk hc ebm hm2 (R := fun m' => y.2.2 (4 + m')) ((y.2.2 (4 + m)).length + 1) 0 y z (y.2.2 (4 + m)).length (1000000 : Int32) (1000000 : Int32) none (nI 0) (nI 0) (by omega) h (fun _ => rfl) hT (Or.inl ⟨rfl, rfl⟩) (Or.inr (by omega))
  have etr : m_tr σ z (4 * j + k) = m_try σ (4 * j + k) ((y.2.2 (4 + m)).length + 1) 0 z none (nI 0) (nI 0) := by unfold m_tr; rw [ern]
  rw [← etr] at g1 g3
  have ebest : b_best σ y (4 * j + k) = b_ins (b_try σ (4 * j + k) m ((y.2.2 (4 + m)).length + 1) 0 y (y.2.2 (4 + m)).length (1000000 : Int32) (1000000 : Int32)).2 m (b_try σ (4 * j + k) m ((y.2.2 (4 + m)).length + 1) 0 y (y.2.2 (4 + m)).length (1000000 : Int32) (1000000 : Int32)).1 (4 * j + k) := by
    unfold b_best
    rw [ebm]
  rw [ebest]
  unfold m_rsh1
  generalize b_try σ (4 * j + k) m ((y.2.2 (4 + m)).length + 1) 0 y (y.2.2 (4 + m)).length (1000000 : Int32) (1000000 : Int32) = r at g1 g2 g3 g4 g5
  rw [g3]
  show v_mid σ x (b_ins r.2 m r.1 (4 * j + k)) (m_puts σ (m_tr σ z (4 * j + k)).2 (4 * j + k) r.1) j (k + 1) ∧ _
  have hmid := v_mid_ins hI hRs hx hj hk hc g1 (pl := r.1) (by rw [ebm, g2]; exact g4)
  rw [ebm] at hmid
  refine ⟨hmid, ?_, _, rfl⟩
  obtain ⟨y0, L, k1, k2, k3⟩ := g5
  refine ⟨L, v_To_rows k1 hmid.1 (fun m' hm' => ?_) k2⟩
  rw [k3 m' hm']
  by_cases e : m' = m
  · subst e; rw [if_pos rfl, b_ins_l, g2]
  · rw [if_neg e, b_ins_n (by omega), g2]
theorem v_rushE (hI : v_IS σ) (hRs : v_Rs σ) {j : Nat} (hx : ∀ i, i / 4 = j → ¬ v_in σ x i) (hj : j < b_nj σ) (hc : b_cnt x (σ.2.2 0) + b_np σ j ≤ 32) : ∀ (n k : Nat) (y z : bt_X), k + n = b_np σ j → v_mid σ x y z j k → (∃ L, v_To σ y L) →
    v_mid σ x (b_rush σ y (List.range' (4 * j + k) n)) (m_rsh σ j n k z) j (b_np σ j) ∧ (∃ L, v_To σ (b_rush σ y (List.range' (4 * j + k) n)) L) ∧ m_rok σ j n k z := by
  intro n
  induction n with
  | zero =>
    intro k y z hk h hT
    have : k = b_np σ j := by omega
    subst this
    exact ⟨h, hT, trivial⟩
  | succ n ih =>
    intro k y z hk h hT
    obtain ⟨g1, g2, g3⟩ := v_best1 hI hRs hx hj (by omega) hc h hT
    rw [List.range'_succ]
    unfold b_rush m_rsh m_rok
    rw [show 4 * j + k + 1 = 4 * j + (k + 1) by omega]
    obtain ⟨k1, k2, k3⟩ := ih (k + 1) _ _ (by omega) g1 g2
    exact ⟨k1, k2, g3, k3⟩
theorem v_best_r {σ y : bt_X} {i : Nat} (hH : ∀ (n q : Nat) (y : bt_X) (b : Nat) (s t : Int32) {c i' k : Nat}, c = 8 → (b_try σ i (b_m σ i) n q y b s t).2.1 c i' k = y.1 c i' k) {i' k : Nat} : (b_best σ y i).1 8 i' k = y.1 8 i' k := by
  unfold b_best
  rw [v_ins_nr, v_nr_1]
  exact hH _ _ _ _ _ _ rfl
theorem v_try_r {σ : bt_X} {i m : Nat} : ∀ (n q : Nat) (y : bt_X) (b : Nat) (s t : Int32) {c i' k : Nat}, c = 8 → (b_try σ i m n q y b s t).2.1 c i' k = y.1 c i' k := by
  intro n
  induction n with
  | zero => intro q y b s t c i' k _; rfl
  | succ n ih =>
    intro q y b s t c i' k hc
    have e : ∀ q, (b_out (b_all σ (b_ins y m q i)).2 m q).1 c i' k = y.1 c i' k := fun q => by
      rw [v_out_nr, v_nr_1, v_all_n (by omega), v_ins_nr, v_nr_1]
    unfold b_try
    simp only []
    split
    · rw [ih _ _ _ _ _ hc, e]
    · split
      · rw [ih _ _ _ _ _ hc, e]
      · split
        · split
          · rw [ih _ _ _ _ _ hc, e]
          · rw [ih _ _ _ _ _ hc, e]
        · rw [ih _ _ _ _ _ hc, e]
theorem v_rush_r {σ : bt_X} : ∀ (os : List Nat) (y : bt_X) {i' k : Nat}, (b_rush σ y os).1 8 i' k = y.1 8 i' k := by
  intro os
  induction os with
  | nil => intro y i' k; rfl
  | cons o os ih => intro y i' k; exact (ih _).trans (v_best_r v_try_r)
theorem m_rsh_f {j : Nat} : ∀ (n k : Nat) (z : bt_X), (m_rsh σ j n k z).2 = z.2 ∧ ∀ c i k', ¬ (c = 8 ∧ ((i = 15 ∨ i = 16) ∨ 26 ≤ i)) → (m_rsh σ j n k z).1 c i k' = z.1 c i k' := by
  have ht : ∀ p (n k : Nat) (z : bt_X) (b : Option Nat) (s t : Int32), (m_try σ p n k z b s t).2.2 = z.2 ∧ ∀ c i k', ¬ (c = 8 ∧ ((i = 15 ∨ i = 16) ∨ 26 ≤ i)) → (m_try σ p n k z b s t).2.1 c i k' = z.1 c i k' := by
    intro p n
    induction n with
    | zero => intro k z b s t; exact ⟨rfl, fun _ _ _ _ => rfl⟩
    | succ n ih =>
      intro k z b s t
      have e2 : (m_tsx σ z p k).2 = z.2 := by unfold m_tsx; rw [m_takes_2, v_wS_2, m_puts_2]
      have e1 : ∀ c i k', ¬ (c = 8 ∧ ((i = 15 ∨ i = 16) ∨ 26 ≤ i)) → (m_tsx σ z p k).1 c i k' = z.1 c i k' := fun c i k' hc => by
        unfold m_tsx
        rw [m_takes_n (by omega), m_works_n (by omega), m_puts_n (by omega)]
      unfold m_try
      split
      · obtain ⟨g1, g2⟩ := ih (k + 1) (m_tsx σ z p k) b s t
        exact ⟨g1.trans e2, fun c i k' hc => (g2 c i k' hc).trans (e1 c i k' hc)⟩
      · split
        · obtain ⟨g1, g2⟩ := ih (k + 1) (m_tsx σ z p k) b s t
          exact ⟨g1.trans e2, fun c i k' hc => (g2 c i k' hc).trans (e1 c i k' hc)⟩
        · obtain ⟨g1, g2⟩ := ih (k + 1) (m_tsx σ z p k) (some k) (m_tsp σ z p k) (m_tst σ z p k)
          exact ⟨g1.trans e2, fun c i k' hc => (g2 c i k' hc).trans (e1 c i k' hc)⟩
  intro n
  induction n with
  | zero => intro k z; exact ⟨rfl, fun _ _ _ _ => rfl⟩
  | succ n ih =>
    intro k z
    obtain ⟨g1, g2⟩ := ih (k + 1) (m_rsh1 σ z (4 * j + k))
    obtain ⟨k1, k2⟩ := ht (4 * j + k) (m_rn z (m_mc σ (4 * j + k)) + 1) 0 z none (nI 0) (nI 0)
    refine ⟨g1.trans ?_, fun c i k' hc => (g2 c i k' hc).trans ?_⟩
    · unfold m_rsh1; rw [m_puts_2]; exact k1
    · unfold m_rsh1; rw [m_puts_n (by omega)]; exact k2 c i k' hc
theorem s_rush (h : v_Inv σ x) {a : Int32} (hX : v_cX (b_rshF σ x a).2.2 w) (hr : v_rA (b_rshF σ x a).2.2 w) : v_Ok (b_rshF σ x a) z_rush (m_rush (b_rshF σ x a).2.1 w a) ∧
    (m_bars (b_rshF σ x a).2.1 a = 0 → ∀ j, b_ix (m_nj (b_rshF σ x a).2.1) a = some j → m_tot w + m_np (b_rshF σ x a).2.1 j ≤ 32 ∧ m_rok (b_rshF σ x a).2.1 j (m_np (b_rshF σ x a).2.1 j) 0 (m_thr w (nI 0))) := by
  rcases v_wjn (a := a) h with ⟨j, e1, e2, e3, hj, hp, hnp, enp⟩ | ⟨e1, e2⟩ | ⟨e1, e2⟩
  · have hops := (h.1.1.1.2.2.2.2 j hj).1
    have eF : b_rshF σ x a = (.inl (some (.int ((b_all (bt_gs σ 0 j 3 (nI 1)) (b_rush σ x (σ.2.2 (8 + j)))).2.1 4 0 5))), bt_gs σ 0 j 3 (nI 1), (b_all (bt_gs σ 0 j 3 (nI 1)) (b_rush σ x (σ.2.2 (8 + j)))).2) := by unfold b_rshF; rw [e1]
    rw [eF] at hX hr ⊢
    rw [hops] at hX hr ⊢
    simp only [] at hX hr
    have ea : a.toNatClampNeg = j := by
      obtain ⟨q, -⟩ := v_ixe (by have := h.1.1.1.2.2.2.1; omega) e2
      rw [q]
      exact nI_clamp (by have := h.1.1.1.2.2.2.1; omega)
    have em : m_rush (bt_gs σ 0 j 3 (nI 1)) w a = m_mvd (bt_gs σ 0 j 3 (nI 1)) j (nI 1) (m_rsh σ j (b_np σ j) 0 (m_thr w (nI 0))) := by
      unfold m_rush
      rw [v_bars_job, if_pos e3, ea, v_np_job, enp, g_rsh]
    rw [show ((Sum.inl (some (Value.int ((b_all (bt_gs σ 0 j 3 (nI 1)) (b_rush σ x (List.range' (4 * j) (b_np σ j)))).2.1 4 0 5))), bt_gs σ 0 j 3 (nI 1), (b_all (bt_gs σ 0 j 3 (nI 1)) (b_rush σ x (List.range' (4 * j) (b_np σ j)))).2) : b_R).2.1 = bt_gs σ 0 j 3 (nI 1) from rfl, em]
    have hin0 := v_nin h hp
    have hcap := v_cap h hj hp
    have hrx : ∀ i k, i = 15 ∨ i = 16 → (m_thr w (nI 0)).1 8 i k = x.1 8 i k := fun i k hi => by
      rw [m_thr_n (by omega), hr 8 i k (by omega), v_all_n (by omega), v_rush_r]
    have hRd0 : v_Rd σ x (m_thr w (nI 0)) := h.2.2.2.ext (fun _ _ => rfl) hrx
    obtain ⟨g1, g2, g3⟩ := v_rushE h.1.1 h.2.2.1 hin0 hj hcap (b_np σ j) 0 x (m_thr w (nI 0)) (Nat.zero_add _) ⟨h.1.2.1, h.1.2.2.1, hRd0, fun i => ⟨fun q => Or.inl q, fun q => q.resolve_right (fun q => by omega)⟩, rfl⟩ ⟨_, v_CI_To h.1.2.2.2.2.1 h.1.2.2.2.2.2⟩
    rw [Nat.add_zero] at g1 g2
    obtain ⟨L, hL⟩ := g2
    obtain ⟨k1, k2⟩ := m_rsh_f (σ := σ) (j := j) (b_np σ j) 0 (m_thr w (nI 0))
    have I := v_moved (w := w) (x2 := m_rsh σ j (b_np σ j) 0 (m_thr w (nI 0))) h hj (Or.inr ⟨rfl, hnp⟩) g1.1 g1.2.1 ⟨_, v_To_Rk hL⟩ (fun i hi => by
      rw [g1.2.2.2.1]
      by_cases e : i / 4 = j
      · rw [if_pos e]
        exact ⟨fun _ => rfl, fun _ => Or.inr ⟨e, by rw [← e]; exact hi.2⟩⟩
      · rw [if_neg e]
        exact ⟨fun q => q.resolve_right (fun q => e q.1), Or.inl⟩) hX ⟨by rw [k1]; rfl, fun _ _ => by rw [k1]; rfl, fun c i k hc _ => by rw [k2 c i k (by omega), m_thr_n (by omega)]⟩ g1.2.2.1
    refine ⟨v_mvOk I (by rw [k2 6 0 0 (by omega)]; exact m_thr_at) rfl rfl (by rw [k2 4 0 5 (by omega), m_thr_n (by omega)]; exact hX.2.2 4 0 5 (by omega) (by omega)), fun _ j' hj' => ?_⟩
    have em2 : b_ix (m_nj (bt_gs σ 0 j 3 (nI 1))) a = some j := by
      unfold m_nj
      rw [b_gs_ne (by omega)]
      have : b_ix (m_nj σ) a = some j := by rw [v_nj h]; exact e2
      exact this
    rw [em2] at hj'
    cases hj'
    rw [v_np_job, enp]
    refine ⟨?_, g_rok _ _ _ g3⟩
    have hwR : v_Rd σ x w := hRd0.ext (fun _ _ => rfl) (fun i k hi => (m_thr_n (by omega)).symm)
    rw [v_tot h.1.1.1 hwR]
    exact hcap
  · have eF : b_rshF σ x a = (.inr b_IO, σ, x) := by unfold b_rshF; rw [e1]
    rw [eF] at hX hr ⊢
    rw [show ((Sum.inr b_IO, σ, x) : b_R).2.1 = σ from rfl]
    refine ⟨?_, fun q => absurd q (by rw [e2]; decide)⟩
    rw [show m_rush σ w a = (nI 0, σ, m_thr w (nI 1)) by unfold m_rush; rw [e2, if_neg (by decide)]]
    exact (h.go hX hr).thrOk rfl (fun u q => by cases q)
  · have eF : b_rshF σ x a = (.inr b_IS, σ, x) := by unfold b_rshF; rw [e1]
    rw [eF] at hX hr ⊢
    rw [show ((Sum.inr b_IS, σ, x) : b_R).2.1 = σ from rfl]
    refine ⟨?_, fun q => absurd q (by rw [e2]; decide)⟩
    rw [show m_rush σ w a = (nI 0, σ, m_thr w (nI 2)) by unfold m_rush; rw [e2, if_neg (by decide)]]
    exact (h.go hX hr).thrOk rfl (fun u q => by cases q)
/-- place: what the reference's contract asks -/
theorem s_placeC (h : v_Inv σ x) {a : Int32} (hX : v_cX (b_plcF σ x a).2.2 w) (hr : v_rA (b_plcF σ x a).2.2 w) : m_bars (b_plcF σ x a).2.1 a = 0 → ∀ j, b_ix (m_nj (b_plcF σ x a).2.1) a = some j → m_tot w + m_np (b_plcF σ x a).2.1 j ≤ 32 := by
  rcases v_wjn (a := a) h with ⟨j, e1, e2, e3, hj, hp, hnp, enp⟩ | ⟨e1, e2⟩ | ⟨e1, e2⟩
  · have eF : b_plcF σ x a = (.inl (some (.int ((b_all (bt_gs σ 0 j 3 (nI 1)) (b_place σ x (σ.2.2 (8 + j)))).2.1 4 0 5))), bt_gs σ 0 j 3 (nI 1), (b_all (bt_gs σ 0 j 3 (nI 1)) (b_place σ x (σ.2.2 (8 + j)))).2) := by unfold b_plcF; rw [e1]
    rw [eF] at hX hr ⊢
    simp only [] at hX hr
    intro _ j' hj'
    rw [show ((Sum.inl (some (Value.int ((b_all (bt_gs σ 0 j 3 (nI 1)) (b_place σ x (σ.2.2 (8 + j)))).2.1 4 0 5))), bt_gs σ 0 j 3 (nI 1), (b_all (bt_gs σ 0 j 3 (nI 1)) (b_place σ x (σ.2.2 (8 + j)))).2) : b_R).2.1 = bt_gs σ 0 j 3 (nI 1) from rfl] at hj' ⊢
    have em2 : b_ix (m_nj (bt_gs σ 0 j 3 (nI 1))) a = some j := by
      unfold m_nj
      rw [b_gs_ne (by omega)]
      have : b_ix (m_nj σ) a = some j := by rw [v_nj h]; exact e2
      exact this
    rw [em2] at hj'
    cases hj'
    rw [v_np_job, enp]
    have hwR : v_Rd σ x w := h.2.2.2.ext (fun _ _ => rfl) (fun i k hi => by
      rw [hr 8 i k (by omega), v_all_n (by omega)]
      have key : ∀ (os : List Nat) (y : bt_X), (b_place σ y os).1 = y.1 := by
        intro os
        induction os with
        | nil => intro y; rfl
        | cons o os ih => intro y; exact (ih _).trans (by rw [v_ins_nr, v_nr_1])
      rw [key])
    rw [v_tot h.1.1.1 hwR]
    exact v_cap h hj hp
  · have eF : b_plcF σ x a = (.inr b_IO, σ, x) := by unfold b_plcF; rw [e1]
    rw [eF]
    exact fun q => absurd (show m_bars σ a = 0 from q) (by rw [e2]; decide)
  · have eF : b_plcF σ x a = (.inr b_IS, σ, x) := by unfold b_plcF; rw [e1]
    rw [eF]
    exact fun q => absurd (show m_bars σ a = 0 from q) (by rw [e2]; decide)
end VRU

