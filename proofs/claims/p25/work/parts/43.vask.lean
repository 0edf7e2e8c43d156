/-! ===== what is asked: one answer ===== -/
section VQ
variable {σ x w : bt_X}
def z_f : bp_O → Int32 ⊕ String
  | .inl (some (.int v)) => .inl v
  | .inl _ => .inl 0
  | .inr E => .inr E
/-- a call's end: the reference's answer is the class's, and what holds between calls holds -/
def v_Ok (F : b_R) (code : Int32 ⊕ String → Int32) (R : m_Rt) : Prop := v_Inv R.2.1 R.2.2 ∧ R.2.2.1 6 0 0 = code (z_f F.1) ∧ ∀ u, z_f F.1 = .inl u → R.1 = u
theorem v_Inv.mv {x2 : bt_X} (h : v_Inv σ x) (hX : v_cX x x2) (h15 : ∀ i k, i = 15 ∨ i = 16 → x2.1 8 i k = x.1 8 i k) : v_Inv σ x2 :=
  ⟨h.1.congr v_cA.refl hX, h.2.1, h.2.2.1, h.2.2.2.ext (fun m _ => hX.2.1 _ (by omega)) h15⟩
/-- out of the call of the class into the reference's -/
theorem v_Inv.go (h : v_Inv σ x) (hX : v_cX x w) (hr : v_rA x w) : v_Inv σ w := h.mv hX (fun i k hi => hr 8 i k (by omega))
theorem v_cX_thr {v : Int32} : v_cX x (m_thr x v) := ⟨rfl, fun _ _ => rfl, fun c i k hc _ => m_thr_n (by omega)⟩
theorem v_Inv.thr (h : v_Inv σ x) {v : Int32} : v_Inv σ (m_thr x v) := h.mv v_cX_thr (fun i k hi => m_thr_n (by omega))
theorem v_wS_2 : (m_wS σ x).2 = x.2 := by
  have h1 : ∀ (n p : Nat) (y : bt_X), (m_z n p y).2 = y.2 := by
    intro n
    induction n with
    | zero => intro p y; rfl
    | succ n ih => intro p y; exact ih _ _
  have h2 : ∀ (m r n k : Nat) (y : bt_X), (m_lkR m r n k y).2 = y.2 := by
    intro m r n
    induction n with
    | zero => intro k y; rfl
    | succ n ih => intro k y; exact ih _ _
  have h3 : ∀ (n m : Nat) (y : bt_X), (m_lkM n m y).2 = y.2 := by
    intro n
    induction n with
    | zero => intro m y; rfl
    | succ n ih => intro m y; exact (ih _ _).trans (h2 _ _ _ _ _)
  have h4 : ∀ (n p : Nat) (ch : Int32) (y : bt_X), (m_rd σ n p ch y).2.2 = y.2 := by
    intro n
    induction n with
    | zero => intro p ch y; rfl
    | succ n ih => intro p ch y; exact ih _ _ _
  have h5 : ∀ (n : Nat) (ch : Int32) (y : bt_X), (m_wkL σ n ch y).2.2 = y.2 := by
    intro n
    induction n with
    | zero => intro ch y; rfl
    | succ n ih =>
      intro ch y
      unfold m_wkL
      split
      · rfl
      · exact (ih _ _).trans (h4 _ _ _ _)
  unfold m_wS m_wk
  rw [h5]
  unfold m_lays
  rw [h3, h1]
theorem v_cX_wS : v_cX x (m_wS σ x) := ⟨by rw [v_wS_2], fun _ _ => by rw [v_wS_2], fun c i k hc _ => m_works_n (by omega)⟩
theorem v_Inv.wS (h : v_Inv σ x) {σ' : bt_X} : v_Inv σ (m_wS σ' x) := h.mv v_cX_wS (fun i k hi => m_works_n (by omega))
theorem v_nm (h : v_Inv σ x) : m_nm σ = b_nm σ := h.2.2.1.1
theorem v_nj (h : v_Inv σ x) : m_nj σ = b_nj σ := h.2.2.1.2.1
theorem v_nm5 (h : v_Inv σ x) : b_nm σ ≤ 4 := h.1.1.1.2.1
theorem v_rl (h : v_Inv σ x) {m : Nat} (hm : m < b_nm σ) : m_rn x m = (x.2.2 (4 + m)).length ∧ x.1 8 15 m = nI (x.2.2 (4 + m)).length := by
  have hm4 : m < 4 := by have := v_nm5 h; omega
  have e := h.2.2.2.2.1 m hm4
  rw [if_pos hm] at e
  refine ⟨e, ?_⟩
  rw [← e]
  exact (h.2.2.2.1 m hm4).1.e
theorem v_ixe {n : Nat} {a : Int32} {j : Nat} (hn : n < 2 ^ 31) (h : b_ix n a = some j) : a = nI j ∧ j < n := m_ix_e hn h
/-- placed -/
theorem s_plcd (h : v_Inv σ x) {a : Int32} (hX : v_cX x w) (hr : v_rA x w) : v_Ok (b_plcd σ x a) z_placed (m_plcd σ w a) := by
  have hw := h.go hX hr
  unfold b_plcd m_plcd
  rw [v_nm h]
  cases e : b_ix (b_nm σ) a with
  | none => exact ⟨hw.thr.thr, m_thr_at, fun u hu => by cases hu⟩
  | some m =>
    refine ⟨hw.thr, m_thr_at, fun u hu => ?_⟩
    cases hu
    show w.1 8 15 m = _
    rw [(v_rl hw (v_ixe (by have := v_nm5 h; omega) e).2).2, hX.2.1 _ (by omega)]
theorem v_code (hSt : b_St σ) (hO : v_O σ) (hJ : v_Jb σ) {i : Nat} (hi : v_op σ i) : b_code σ i = m_code i := by
  unfold b_code m_code
  rw [(hJ _ hi.1).1, (hO i hi).2.2.1, pk_mul, nI_add]
/-- placedAt -/
theorem s_plAt (h : v_Inv σ x) {a p : Int32} (hX : v_cX x w) (hr : v_rA x w) : v_Ok (b_plAt σ x a p) z_placedAt (m_plAt σ w a p) := by
  have hw := h.go hX hr
  unfold b_plAt m_plAt
  rw [v_nm h]
  cases e : b_ix (b_nm σ) a with
  | none => exact ⟨hw.thr.thr, m_thr_at, fun u hu => by cases hu⟩
  | some m =>
    obtain ⟨-, hm⟩ := v_ixe (by have := v_nm5 h; omega) e
    have el := (v_rl hw hm).1
    have er : w.2.2 (4 + m) = x.2.2 (4 + m) := hX.2.1 _ (by omega)
    simp only []
    rw [el, er]
    have hl : (x.2.2 (4 + m)).length ≤ 32 := v_len h.1.1.1 h.1.2.1 hm
    unfold b_ix
    by_cases c : p < 0
    · rw [if_pos c, if_pos c]
      exact ⟨hw.thr.thr, m_thr_at, fun u hu => by cases hu⟩
    · rw [if_neg c, if_neg c]
      by_cases d : p < nI (x.2.2 (4 + m)).length
      · rw [if_pos d, if_pos d]
        refine ⟨hw.thr, m_thr_at, fun u hu => ?_⟩
        cases hu
        obtain ⟨p1, p2⟩ := b_nn c d (by omega)
        have hg := b_getD p2
        have hop := ((h.1.2.1.1 m hm).2 _ (List.mem_of_getElem? hg)).1
        show m_code (m_ro w m p.toNatClampNeg) = b_code σ _
        rw [v_code h.1.1.1 h.1.1.2.1 h.1.1.2.2.2.2.1 hop, hw.2.2.2.2.2 m hm p.toNatClampNeg _ (by rw [er]; exact hg)]
      · rw [if_neg d, if_neg d]
        exact ⟨hw.thr.thr, m_thr_at, fun u hu => by cases hu⟩
/-- set-ups of a row -/
theorem v_sml (h : v_Inv σ x) (hw : v_Inv σ w) (hX : v_cX x w) {m : Nat} (hm : m < b_nm σ) : ∀ (n k f : Nat) (s : Int32), n + k = (x.2.2 (4 + m)).length → (f = match k with | 0 => 0 | k + 1 => b_fn σ ((x.2.2 (4 + m)).getD k 0)) → m_sml σ w m n k f s = b_sum σ x ((x.2.2 (4 + m)).drop k) s := by
  intro n
  induction n with
  | zero =>
    intro k f s hk _
    rw [List.drop_eq_nil_of_le (by omega)]
    rfl
  | succ n ih =>
    intro k f s hk hf
    have hkl : k < (x.2.2 (4 + m)).length := by omega
    have hg := List.getElem?_eq_getElem hkl
    obtain ⟨hop, -⟩ := (h.1.2.1.1 m hm).2 _ (List.mem_of_getElem? hg)
    have er : w.2.2 (4 + m) = x.2.2 (4 + m) := hX.2.1 _ (by omega)
    have ero := hw.2.2.2.2.2 m hm k _ (by rw [er]; exact hg)
    rw [List.drop_eq_getElem_cons hkl]
    unfold m_sml b_sum
    rw [ero]
    have efm : m_fm σ (x.2.2 (4 + m))[k] = b_fn σ (x.2.2 (4 + m))[k] := (h.2.2.1.2.2.2.1 _ hop).2.2.1
    have hfi := (h.1.1.2.1 _ hop).2.1.2
    have esu : m_su σ f (m_fm σ (x.2.2 (4 + m))[k]) = b_bet σ (x.2.1 2 (x.2.2 (4 + m))[k] 8) (x.2.2 (4 + m))[k] := by
      rw [efm, (h.1.2.1.2.1 m hm k _ hg).1]
      cases k with
      | zero =>
        subst hf
        rw [if_pos rfl, h.2.2.1.2.2.2.2.2.1 0 _ (by decide) hfi]
        rfl
      | succ k =>
        have hkl2 : k < (x.2.2 (4 + m)).length := by omega
        have hg2 := List.getElem?_eq_getElem hkl2
        have hf2 : f = b_fn σ (x.2.2 (4 + m))[k] := by
          rw [hf]
          show b_fn σ ((x.2.2 (4 + m)).getD k 0) = _
          rw [List.getD_eq_getElem?_getD, hg2]
          rfl
        have hop2 := ((h.1.2.1.1 m hm).2 _ (List.mem_of_getElem? hg2)).1
        rw [if_neg (by omega), show k + 1 - 1 = k by omega, hg2, hf2, h.2.2.1.2.2.2.2.2.1 _ _ (h.1.1.2.1 _ hop2).2.1.2 hfi]
        rfl
    rw [esu]
    refine ih (k + 1) _ _ (by omega) ?_
    rw [efm]
    show _ = b_fn σ ((x.2.2 (4 + m)).getD k 0)
    rw [List.getD_eq_getElem?_getD, hg]
    rfl
theorem s_setups (h : v_Inv σ x) {a : Int32} (hX : v_cX x w) (hr : v_rA x w) : v_Ok (b_sum1 σ x a) z_setups (m_setups σ w a |> fun r => (r.1, σ, r.2)) := by
  have hw := h.go hX hr
  unfold b_sum1 m_setups
  rw [v_nm h]
  cases e : b_ix (b_nm σ) a with
  | none => exact ⟨hw.thr, m_thr_at, fun u hu => by cases hu⟩
  | some m =>
    obtain ⟨-, hm⟩ := v_ixe (by have := v_nm5 h; omega) e
    refine ⟨hw.thr, m_thr_at, fun u hu => ?_⟩
    cases hu
    show m_sml σ w m (m_rn w m) 0 0 (nI 0) = _
    rw [(v_rl hw hm).1, hX.2.1 _ (by omega), v_sml h hw hX hm _ 0 0 (nI 0) rfl rfl]
    rfl
/-- which operation is asked for -/
theorem v_po (h : v_Inv σ x) {a b : Int32} : (∃ i, b_po σ a b = .inl i ∧ m_ask σ a b = .inl i ∧ v_op σ i ∧ σ.1 0 (i / 4) 3 = nI 1) ∨ (b_po σ a b = .inr b_IO ∧ m_ask σ a b = .inr 1) ∨ (b_po σ a b = .inr b_IS ∧ m_ask σ a b = .inr 2) := by
  have hj8 : b_nj σ ≤ 8 := h.1.1.1.2.2.2.1
  unfold b_po m_ask
  rw [v_nj h]
  cases e : b_ix (b_nj σ) a with
  | none => exact Or.inr (Or.inl ⟨rfl, rfl⟩)
  | some j =>
    obtain ⟨-, hj⟩ := v_ixe (by omega) e
    have enp := h.2.2.1.2.2.1 j (by omega)
    rw [if_pos hj] at enp
    have hp4 := (h.1.1.1.2.2.2.2 j hj).2
    simp only []
    rw [enp]
    cases e2 : b_ix (b_np σ j) b with
    | none => exact Or.inr (Or.inl ⟨rfl, rfl⟩)
    | some k =>
      obtain ⟨-, hk⟩ := v_ixe (by omega) e2
      have e20 := (h.2.2.1.2.2.2.2.2.2 j hj).2
      simp only []
      rw [e20]
      by_cases c : σ.1 0 j 3 = 0
      · rw [if_pos c, if_pos c]; exact Or.inr (Or.inr ⟨rfl, rfl⟩)
      · rw [if_neg c, if_neg c]
        refine Or.inl ⟨4 * j + k, rfl, rfl, ⟨by omega, by rw [show (4 * j + k) / 4 = j by omega]; omega⟩, ?_⟩
        rw [show (4 * j + k) / 4 = j by omega]
        rcases (h.1.1.2.2.2.2.1 j hj).2.2 with q | ⟨q, -⟩
        · exact absurd q c
        · exact q
theorem v_pl_ord (h : v_Inv σ x) {i : Nat} (hi : v_op σ i) (hp : σ.1 0 (i / 4) 3 = nI 1) : i ∈ x.2.2 2 := by
  obtain ⟨m, hm, him⟩ := (h.1.2.2.2.1 i hi).mpr hp
  exact h.1.2.2.2.2.2 m hm i him
/-- what the reference works out, is what the class holds -/
theorem v_now (h : v_Inv σ x) : m_wOk σ x = nI 1 ∧ (∀ i ∈ x.2.2 2, (m_wS σ x).1 8 29 i = x.1 2 i 10) ∧ m_span σ (m_wS σ x) = x.1 4 0 5 := by
  obtain ⟨⟨⟨a1, a2, a3, a4, a5, a6⟩, b1, b2, b3, b4, b5⟩, c1, c2, c3⟩ := h
  exact v_fresh a1 a2 a3 a4 c2 b1 b4 b5 c3
theorem s_st (h : v_Inv σ x) {a b : Int32} (hX : v_cX x w) (hr : v_rA x w) : v_Ok (b_st σ x a b) z_startOf (m_stn σ w a b) := by
  have hw := h.go hX hr
  unfold b_st m_stn
  rcases v_po (a := a) (b := b) h with ⟨i, e1, e2, e3, e4⟩ | ⟨e1, e2⟩ | ⟨e1, e2⟩
  · rw [e1, e2]
    refine ⟨hw.thr.wS, by rw [m_works_n (by omega)]; exact m_thr_at, fun u hu => ?_⟩
    cases hu
    have hw2 := hw.thr (v := nI 0)
    show (m_wS σ (m_thr w (nI 0))).1 8 29 i = x.1 2 i 10
    rw [(v_now hw2).2.1 i (v_pl_ord hw2 e3 e4), m_thr_n (by omega), hX.2.2 2 i 10 (by omega) (by omega)]
  · rw [e1, e2]
    exact ⟨hw.thr.wS, by rw [m_works_n (by omega)]; exact m_thr_at, fun u hu => by cases hu⟩
  · rw [e1, e2]
    exact ⟨hw.thr.wS, by rw [m_works_n (by omega)]; exact m_thr_at, fun u hu => by cases hu⟩
theorem s_span (h : v_Inv σ x) (hX : v_cX x w) (hr : v_rA x w) : v_Inv (m_spanF σ w).2.1 (m_spanF σ w).2.2 ∧ (m_spanF σ w).1 = x.1 4 0 5 := by
  have hw := h.go hX hr
  have hw2 := hw.thr (v := nI 0)
  refine ⟨hw2.wS, ?_⟩
  show m_span σ (m_wS σ (m_thr w (nI 0))) = _
  rw [(v_now hw2).2.2, m_thr_n (by omega), hX.2.2 4 0 5 (by omega) (by omega)]
end VQ

