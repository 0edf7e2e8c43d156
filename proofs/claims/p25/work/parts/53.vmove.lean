/-! ===== place, remove, swap: one answer ===== -/
section VZ
variable {σ σ1 σ2 x y z w : bt_X}
theorem m_puts_cg (h : ∀ p, m_mc σ1 p = m_mc σ p) {z : bt_X} {p pl : Nat} : m_puts σ1 z p pl = m_puts σ z p pl := by unfold m_puts; rw [h]
theorem m_plc_cg (h : ∀ p, m_mc σ1 p = m_mc σ p) {j : Nat} : ∀ (n k : Nat) (z : bt_X), m_plc σ1 j n k z = m_plc σ j n k z := by
  intro n
  induction n with
  | zero => intro k z; rfl
  | succ n ih => intro k z; unfold m_plc; rw [h, m_puts_cg h, ih]
theorem m_psh_2 {m pl : Nat} : ∀ (n : Nat) (z : bt_X), (m_psh m pl n z).2 = z.2 := by
  intro n
  induction n with
  | zero => intro z; rfl
  | succ n ih => intro z; exact ih _
theorem m_puts_2 {p pl : Nat} : (m_puts σ z p pl).2 = z.2 := by
  show (m_psh _ _ _ z).2 = z.2
  exact m_psh_2 _ _
theorem m_plc_f {j : Nat} : ∀ (n k : Nat) (z : bt_X), (m_plc σ j n k z).2 = z.2 ∧ ∀ c i k', ¬ (c = 8 ∧ (i = 15 ∨ i = 16)) → (m_plc σ j n k z).1 c i k' = z.1 c i k' := by
  intro n
  induction n with
  | zero => intro k z; exact ⟨rfl, fun _ _ _ _ => rfl⟩
  | succ n ih =>
    intro k z
    obtain ⟨g1, g2⟩ := ih (k + 1) (m_puts σ z (4 * j + k) (m_rn z (m_mc σ (4 * j + k))))
    exact ⟨g1.trans m_puts_2, fun c i k' hc => (g2 c i k' hc).trans (m_puts_n hc)⟩
theorem v_mc_job {j : Nat} {v : Int32} (p : Nat) : m_mc (bt_gs σ 0 j 3 v) p = m_mc σ p := by unfold m_mc; rw [b_gs_ne (by omega)]
theorem v_np_job {j : Nat} {v : Int32} (i : Nat) : m_np (bt_gs σ 0 j 3 v) i = m_np σ i := by unfold m_np; rw [b_gs_ne (by omega)]
theorem v_bars_job {j : Nat} {v a : Int32} : m_bars (bt_gs σ 0 j 3 v) a = m_bars σ a := by
  unfold m_bars m_nj
  rw [b_gs_ne (by omega)]
  simp only [v_np_job]
  cases b_ix (nN (σ.1 6 0 7)) a with
  | none => rfl
  | some i => simp only []; rw [b_gs_ne (by omega)]
theorem v_nin (h : v_Inv σ x) {j : Nat} (hp : σ.1 0 j 3 = nI 0) : ∀ i, i / 4 = j → ¬ v_in σ x i := fun i e ⟨m, hm, hi⟩ => by
  have hop := ((h.1.2.1.1 m hm).2 i hi).1
  have := (h.1.2.2.2.1 i hop).mp ⟨m, hm, hi⟩
  rw [e, hp] at this
  exact absurd this (by decide)
/-- how a move ends -/
theorem v_mvOk {X : bt_X} {F : b_R} {code : Int32 ⊕ String → Int32} {j : Nat} {v V : Int32} (I : v_Inv (bt_gs (bt_gs σ 0 j 3 v) 8 20 j v) X) (ht : X.1 6 0 0 = nI 0) (hc : code (.inl V) = nI 0) (hF : z_f F.1 = .inl V) (hV : X.1 4 0 5 = V) : v_Ok F code (m_mvd (bt_gs σ 0 j 3 v) j v X) := by
  refine ⟨I.wS, ?_, fun u hu => ?_⟩
  · rw [hF, hc]
    show (m_wS _ X).1 6 0 0 = _
    rw [m_works_n (by omega)]
    exact ht
  · rw [hF] at hu
    cases hu
    show m_span _ (m_wS _ X) = _
    rw [(v_now I).2.2]
    exact hV
theorem s_place (h : v_Inv σ x) {a : Int32} (hX : v_cX (b_plcF σ x a).2.2 w) (hr : v_rA (b_plcF σ x a).2.2 w) : v_Ok (b_plcF σ x a) z_place (m_place (b_plcF σ x a).2.1 w a) := by
  rcases v_wjn (a := a) h with ⟨j, e1, e2, e3, hj, hp, hnp, enp⟩ | ⟨e1, e2⟩ | ⟨e1, e2⟩
  · have hops := (h.1.1.1.2.2.2.2 j hj).1
    have eF : b_plcF σ x a = (.inl (some (.int ((b_all (bt_gs σ 0 j 3 (nI 1)) (b_place σ x (σ.2.2 (8 + j)))).2.1 4 0 5))), bt_gs σ 0 j 3 (nI 1), (b_all (bt_gs σ 0 j 3 (nI 1)) (b_place σ x (σ.2.2 (8 + j)))).2) := by unfold b_plcF; rw [e1]
    rw [eF] at hX hr ⊢
    rw [hops] at hX hr ⊢
    have ea : a.toNatClampNeg = j := by
      obtain ⟨q, -⟩ := v_ixe (by have := h.1.1.1.2.2.2.1; omega) e2
      rw [q]
      exact nI_clamp (by have := h.1.1.1.2.2.2.1; omega)
    have em : m_place (bt_gs σ 0 j 3 (nI 1)) w a = m_mvd (bt_gs σ 0 j 3 (nI 1)) j (nI 1) (m_plc σ j (b_np σ j) 0 (m_thr w (nI 0))) := by
      unfold m_place
      rw [v_bars_job, if_pos e3, ea, v_np_job, enp, m_plc_cg v_mc_job]
    rw [show m_place ((Sum.inl (some (Value.int ((b_all (bt_gs σ 0 j 3 (nI 1)) (b_place σ x (List.range' (4 * j) (b_np σ j)))).2.1 4 0 5))), bt_gs σ 0 j 3 (nI 1), (b_all (bt_gs σ 0 j 3 (nI 1)) (b_place σ x (List.range' (4 * j) (b_np σ j)))).2) : b_R).2.1 w a = _ from em]
    have hin0 := v_nin h hp
    have hcap := v_cap h hj hp
    have hrx : ∀ i k, i = 15 ∨ i = 16 → (m_thr w (nI 0)).1 8 i k = x.1 8 i k := fun i k hi => by
      rw [m_thr_n (by omega), hr 8 i k (by omega), v_all_n (by omega)]
      have key : ∀ (os : List Nat) (y : bt_X), (b_place σ y os).1 = y.1 := by
        intro os
        induction os with
        | nil => intro y; rfl
        | cons o os ih => intro y; exact (ih _).trans (by rw [v_ins_nr, v_nr_1])
      rw [key]
    obtain ⟨g1, g2⟩ := v_place h.1.1 h.2.2.1 hin0 hj hcap (b_np σ j) 0 x (m_thr w (nI 0)) (Nat.zero_add _) ⟨h.1.2.1, h.1.2.2.1, h.2.2.2.ext (fun _ _ => rfl) hrx, fun i => ⟨fun q => Or.inl q, fun q => q.resolve_right (fun q => by omega)⟩, rfl⟩ ⟨_, v_CI_To h.1.2.2.2.2.1 h.1.2.2.2.2.2⟩
    rw [Nat.add_zero] at g1 g2
    obtain ⟨L, hL⟩ := g2
    obtain ⟨k1, k2⟩ := m_plc_f (σ := σ) (j := j) (b_np σ j) 0 (m_thr w (nI 0))
    have I := v_moved (w := w) (x2 := m_plc σ j (b_np σ j) 0 (m_thr w (nI 0))) h hj (Or.inr ⟨rfl, hnp⟩) g1.1 g1.2.1 ⟨_, v_To_Rk hL⟩ (fun i hi => by
      rw [g1.2.2.2.1]
      by_cases e : i / 4 = j
      · rw [if_pos e]
        exact ⟨fun _ => rfl, fun _ => Or.inr ⟨e, by rw [← e]; exact hi.2⟩⟩
      · rw [if_neg e]
        exact ⟨fun q => q.resolve_right (fun q => e q.1), Or.inl⟩) hX ⟨by rw [k1]; rfl, fun _ _ => by rw [k1]; rfl, fun c i k hc _ => by rw [k2 c i k (by omega), m_thr_n (by omega)]⟩ g1.2.2.1
    exact v_mvOk I (by rw [k2 6 0 0 (by omega)]; exact m_thr_at) rfl rfl (by rw [k2 4 0 5 (by omega), m_thr_n (by omega)]; exact hX.2.2 4 0 5 (by omega) (by omega))
  · have eF : b_plcF σ x a = (.inr b_IO, σ, x) := by unfold b_plcF; rw [e1]
    rw [eF] at hX hr ⊢
    rw [show m_place ((Sum.inr b_IO, σ, x) : b_R).2.1 w a = (nI 0, σ, m_thr w (nI 1)) by rw [show ((Sum.inr b_IO, σ, x) : b_R).2.1 = σ from rfl]; unfold m_place; rw [e2, if_neg (by decide)]]
    exact (h.go hX hr).thrOk rfl (fun u q => by cases q)
  · have eF : b_plcF σ x a = (.inr b_IS, σ, x) := by unfold b_plcF; rw [e1]
    rw [eF] at hX hr ⊢
    rw [show m_place ((Sum.inr b_IS, σ, x) : b_R).2.1 w a = (nI 0, σ, m_thr w (nI 2)) by rw [show ((Sum.inr b_IS, σ, x) : b_R).2.1 = σ from rfl]; unfold m_place; rw [e2, if_neg (by decide)]]
    exact (h.go hX hr).thrOk rfl (fun u q => by cases q)
/-! remove -/
/-- rows and links, but not that what is ahead in a job is placed -/
def v_W0 (σ y : bt_X) : Prop := (∀ m, m < b_nm σ → (y.2.2 (4 + m)).Nodup ∧ ∀ i ∈ y.2.2 (4 + m), v_op σ i ∧ b_m σ i = m) ∧
  (∀ m, m < b_nm σ → ∀ k i : Nat, (y.2.2 (4 + m))[k]? = some i → y.2.1 2 i 8 = (if k = 0 then none else (y.2.2 (4 + m))[k - 1]?) ∧ y.2.1 2 i 9 = (y.2.2 (4 + m))[k + 1]?)
theorem v_nr_W0 (hW : v_W0 σ y) {m : Nat} {R : List Nat} (hn : R.Nodup) (hR : ∀ i ∈ R, v_op σ i ∧ b_m σ i = m) : v_W0 σ (v_nr y m R) := by
  obtain ⟨w1, w2⟩ := hW
  refine ⟨fun m' hm' => ?_, fun m' hm' k i hi => ?_⟩
  · rw [v_nr_l]
    by_cases e : m' = m
    · subst e; rw [if_pos rfl]; exact ⟨hn, hR⟩
    · rw [if_neg (by omega)]; exact w1 m' hm'
  · rw [v_nr_l] at hi ⊢
    by_cases e : m' = m
    · subst e
      rw [if_pos rfl] at hi ⊢
      obtain ⟨g1, -⟩ := v_lk R (bt_lp y (4 + m') R) none hn (fun b hb => by cases hb)
      unfold v_nr b_link
      rw [bt_lp_at]
      exact g1 k i hi
    · rw [if_neg (show ¬ 4 + m' = 4 + m by omega)] at hi ⊢
      have hni : i ∉ R := fun z => e (((w1 m' hm').2 i (List.mem_of_getElem? hi)).2.symm.trans (hR i z).2)
      rw [v_nr_r (fun z => hni z.2.2) hn, v_nr_r (fun z => hni z.2.2) hn]
      exact w2 m' hm' k i hi
theorem v_keep {j i : Nat} {R : List Nat} : i ∈ b_keep j R ↔ i ∈ R ∧ ¬ i / 4 = j := by unfold b_keep; rw [List.mem_filter]; simp
theorem v_rem {j : Nat} : ∀ (L : List Nat) (y : bt_X), (∀ m ∈ L, m < b_nm σ) → L.Nodup → v_W0 σ y → v_Lk σ y →
    v_W0 σ (b_rem j y L) ∧ v_Lk σ (b_rem j y L) ∧ (b_rem j y L).1 = y.1 ∧ ∀ n, (b_rem j y L).2.2 n = if n - 4 ∈ L ∧ 4 ≤ n then b_keep j (y.2.2 n) else y.2.2 n := by
  intro L
  induction L with
  | nil => intro y _ _ hW hk; exact ⟨hW, hk, rfl, fun n => by rw [if_neg (fun z => absurd z.1 List.not_mem_nil)]; rfl⟩
  | cons m L ih =>
    intro y hL hn hW hk
    rw [List.nodup_cons] at hn
    have hm := hL m List.mem_cons_self
    obtain ⟨n1, n2⟩ := hW.1 m hm
    have hnd : (b_keep j (y.2.2 (4 + m))).Nodup := List.Nodup.sublist List.filter_sublist n1
    have hR : ∀ i ∈ b_keep j (y.2.2 (4 + m)), v_op σ i ∧ b_m σ i = m := fun i hi => n2 i (v_keep.mp hi).1
    have hW2 : v_W0 σ (b_outAll y m j) := v_nr_W0 hW hnd hR
    have hk2 : v_Lk σ (b_outAll y m j) := v_nr_Lk hk hnd (fun i hi => (hR i hi).1)
    obtain ⟨g1, g2, g3, g4⟩ := ih (b_outAll y m j) (fun m' h' => hL m' (List.mem_cons_of_mem _ h')) hn.2 hW2 hk2
    refine ⟨g1, g2, g3.trans (by rw [v_outAll_nr, v_nr_1]), fun n => ?_⟩
    show (b_rem j (b_outAll y m j) L).2.2 n = _
    rw [g4]
    by_cases e : n = 4 + m
    · subst e
      rw [if_neg (fun z => hn.1 (by rw [show 4 + m - 4 = m by omega] at z; exact z.1)), b_outAll_l, if_pos ⟨by rw [show 4 + m - 4 = m by omega]; exact List.mem_cons_self, by omega⟩]
    · rw [b_outAll_n e]
      by_cases c : n - 4 ∈ L ∧ 4 ≤ n
      · rw [if_pos c, if_pos ⟨List.mem_cons_of_mem _ c.1, c.2⟩]
      · rw [if_neg c, if_neg (fun z => c ⟨(List.mem_cons.mp z.1).resolve_left (fun q => e (by omega)), z.2⟩)]
/-- a row without so many of a job's operations -/
def v_kp (j k : Nat) (R : List Nat) : List Nat := R.filter (fun o => decide (¬ (o / 4 = j ∧ o % 4 < k)))
theorem v_kp_mem {j k i : Nat} {R : List Nat} : i ∈ v_kp j k R ↔ i ∈ R ∧ ¬ (i / 4 = j ∧ i % 4 < k) := by unfold v_kp; rw [List.mem_filter, decide_eq_true_iff]
theorem v_kp_0 {j : Nat} {R : List Nat} : v_kp j 0 R = R := by
  unfold v_kp
  exact List.filter_eq_self.mpr (fun a _ => by simp)
theorem v_kp_n {j : Nat} {R : List Nat} {n : Nat} (h : ∀ i ∈ R, i / 4 = j → i % 4 < n) : v_kp j n R = b_keep j R := by
  unfold v_kp b_keep
  refine List.filter_congr (fun a ha => ?_)
  by_cases e : a / 4 = j
  · simp [e, h a ha e]
  · simp [e]
theorem v_kp_s {j k : Nat} : ∀ {R : List Nat} (_ : R.Nodup) (q : Nat), (v_kp j k R)[q]? = some (4 * j + k) → k < 4 → v_kp j (k + 1) R = (v_kp j k R).eraseIdx q := by
  intro R hn q hq hk
  have hnd : (v_kp j k R).Nodup := List.Nodup.sublist List.filter_sublist hn
  have e1 : (v_kp j k R).eraseIdx q = (v_kp j k R).erase (4 * j + k) := by
    rw [List.erase_eq_eraseIdx_of_idxOf]
    have hl := v_lt hq
    have : (v_kp j k R)[q] = 4 * j + k := by rw [List.getElem?_eq_getElem hl] at hq; exact Option.some.inj hq
    rw [← this]
    exact List.Nodup.idxOf_getElem hnd q hl
  rw [e1, hnd.erase_eq_filter]
  unfold v_kp
  rw [List.filter_filter]
  refine List.filter_congr (fun a _ => ?_)
  rw [Bool.eq_iff_iff]
  simp only [Bool.and_eq_true, decide_eq_true_iff, bne_iff_ne, ne_eq]
  omega
theorem m_tsh_2 {m : Nat} : ∀ (n j : Nat) (z : bt_X), (m_tsh m n j z).2 = z.2 := by
  intro n
  induction n with
  | zero => intro j z; rfl
  | succ n ih => intro j z; exact ih _ _
theorem m_takes_2 {p : Nat} : (m_takes σ z p).2 = z.2 := by
  unfold m_takes
  rw [m_tsh_2]
  rfl
theorem m_takes_cg (h : ∀ p, m_mc σ1 p = m_mc σ p) {z : bt_X} {p : Nat} : m_takes σ1 z p = m_takes σ z p := by unfold m_takes m_at; rw [h]
theorem m_tks_cg (h : ∀ p, m_mc σ1 p = m_mc σ p) {j : Nat} : ∀ (n k : Nat) (z : bt_X), m_tks σ1 j n k z = m_tks σ j n k z := by
  intro n
  induction n with
  | zero => intro k z; rfl
  | succ n ih => intro k z; unfold m_tks; rw [m_takes_cg h, ih]
theorem m_tks_f {j : Nat} : ∀ (n k : Nat) (z : bt_X), (m_tks σ j n k z).2 = z.2 ∧ ∀ c i k', ¬ (c = 8 ∧ (i = 15 ∨ i = 16)) → (m_tks σ j n k z).1 c i k' = z.1 c i k' := by
  intro n
  induction n with
  | zero => intro k z; exact ⟨rfl, fun _ _ _ _ => rfl⟩
  | succ n ih =>
    intro k z
    obtain ⟨g1, g2⟩ := ih (k + 1) (m_takes σ z (4 * j + k))
    exact ⟨g1.trans m_takes_2, fun c i k' hc => (g2 c i k' hc).trans (m_takes_n hc)⟩
end VZ

