/-! ===== the law's calls: both sides ===== -/
section VPK
variable {α : bt_A} {σ x w : bt_X}
/-- both sides have come to an end: what stands, what holds, and that they agree -/
def z_E (Q : bt_A → Prop) (k : Int32) (R : m_Rt) : Prop := ∀ α', Q α' → z_V α' R.2.1 ∧ v_Inv R.2.1 R.2.2 ∧ R.2.2.1 6 0 0 = k ∧ (k = 0 → R.2.2.1 8 5 0 = R.1)
theorem z_mk {F : b_R} {P : String → Prop} {code : Int32 ⊕ String → Int32} {R : m_Rt} (hV : z_V α σ) (hF : z_F σ x F P) (hOk : v_Ok F code R) (hw : w = z_x (z_f F.1) F.2.2) (hFr : m_Fr F.2.1 w R) (hcE : ∀ E, z_f F.1 = .inr E → code (.inr E) ≠ 0) : z_E (fun α' => α' = z_al α F) (code (z_f F.1)) R := by
  rintro α' rfl
  refine ⟨hV.al.lists ?_, hOk.1, hOk.2.1, fun hk => ?_⟩
  · rw [hFr.1, hF.1]
  · cases e : z_f F.1 with
    | inr E => rw [e] at hk; exact absurd hk (hcE E e)
    | inl u =>
      rw [hFr.2, hw, e, hOk.2.2 u e]
      show (bt_gs F.2.2 8 5 0 u).1 8 5 0 = u
      exact b_gs_at
theorem v_hcnt (h : v_Inv σ x) {a : Int32} : ∀ j, b_wj σ a = .inl j → b_cnt x (σ.2.2 0) + b_np σ j ≤ 32 := by
  intro j hj
  rcases v_wjn (a := a) h with ⟨j', e1, e2, e3, hj', hp, -⟩ | ⟨e1, -⟩ | ⟨e1, -⟩
  · rw [e1] at hj; cases hj; exact v_cap h hj' hp
  · rw [e1] at hj; cases hj
  · rw [e1] at hj; cases hj
theorem v_hP (h : v_Inv σ x) : ∀ j, j < 8 → ¬ σ.1 8 20 j = 0 → m_np σ j ≠ 0 := by
  intro j hj h20
  have enp := h.2.2.1.2.2.1 j hj
  by_cases c : j < b_nj σ
  · rw [if_pos c] at enp
    rw [enp]
    have e20 := (h.2.2.1.2.2.2.2.2.2 j c).2
    rcases (h.1.1.2.2.2.2.1 j c).2.2 with q | ⟨-, q⟩
    · exact absurd (e20.trans q) h20
    · exact q
  · exact absurd (h.2.1.2.2.2.2 j (by omega) hj) h20
theorem y_setMagazine {G : bp_X} {p0 p1 : Int32} (hV : z_V α σ) (h : v_Inv σ x) (hroom : bt_us α + 110 ≤ bp_max) : ∃ (Q : bt_A → Prop) (k : Int32) (σ1 w : bt_X) (R : m_Rt), bq_S G mL_setMagazine 8 [.ref (bt_ad α 5 0), .int p0, .int p1, .ref (bt_ad α 8 5)] (bt α σ x) (z_P α Q (.inl k) σ1 w) ∧
    (∀ α', Q α' → bq_S G mX6_setMagazine 2 [.ref (bt_ad α' 6 0), .int p0, .int p1] (bt α' σ1 w) (bq_ret (some (.int R.1)) (bt α' R.2.1 R.2.2))) ∧ z_E Q k R ∧ (∀ α', Q α' → m_J α') := by
  have hF : z_F σ x (b_setMag σ x p0 p1) _ := f_setMag
  obtain ⟨x1, x2, -⟩ := z_rx (F := z_f (b_setMag σ x p0 p1).1) (x := (b_setMag σ x p0 p1).2.2)
  obtain ⟨w, hw⟩ : ∃ w, w = z_x (z_f (b_setMag σ x p0 p1).1) (b_setMag σ x p0 p1).2.2 := ⟨_, rfl⟩
  rw [← hw] at x1 x2
  obtain ⟨hN, hK, hT, hRw⟩ := z_rr h hF.2.1 (hF.2.2.1.trans x2)
  have S := s_setMag (w := w) (a := p0) (c := p1) h x1 x2
  refine ⟨fun α' => α' = z_al α (b_setMag σ x p0 p1), z_setMagazine (z_f (b_setMag σ x p0 p1).1), (b_setMag σ x p0 p1).2.1, w, (m_setMag (b_setMag σ x p0 p1).2.1 w p0 p1), ?_, fun α' hq => ?_, z_mk hV hF S hw r_setMag (fun E hE => ?_), fun α' hq => ?_⟩
  · rw [hw]
    exact w_setMagazine hV.v5 hV.out (z_fE hF) (z_end hF (k_setMag (hV.ok h) (by omega)))
  · subst hq
    exact n_setMag hV.al.J6 hN
  · have := z_fE hF E hE
    unfold z_setMagazine
    simp only []
    repeat' split
    all_goals decide
  · subst hq
    exact hV.al.J6
theorem y_breakdown {G : bp_X} {p0 p1 p2 : Int32} (hV : z_V α σ) (h : v_Inv σ x) (hroom : bt_us α + 110 ≤ bp_max) : ∃ (Q : bt_A → Prop) (k : Int32) (σ1 w : bt_X) (R : m_Rt), bq_S G mL_breakdown 11 [.ref (bt_ad α 5 0), .int p0, .int p1, .int p2, .ref (bt_ad α 8 5)] (bt α σ x) (z_P α Q (.inl k) σ1 w) ∧
    (∀ α', Q α' → bq_S G mX6_breakdown 5 [.ref (bt_ad α' 6 0), .int p0, .int p1, .int p2] (bt α' σ1 w) (bq_ret (some (.int R.1)) (bt α' R.2.1 R.2.2))) ∧ z_E Q k R ∧ (∀ α', Q α' → m_J α') := by
  have hF : z_F σ x (b_brk σ x p0 p1 p2) _ := f_brk
  obtain ⟨x1, x2, -⟩ := z_rx (F := z_f (b_brk σ x p0 p1 p2).1) (x := (b_brk σ x p0 p1 p2).2.2)
  obtain ⟨w, hw⟩ : ∃ w, w = z_x (z_f (b_brk σ x p0 p1 p2).1) (b_brk σ x p0 p1 p2).2.2 := ⟨_, rfl⟩
  rw [← hw] at x1 x2
  obtain ⟨hN, hK, hT, hRw⟩ := z_rr h hF.2.1 (hF.2.2.1.trans x2)
  have S := s_brk (w := w) (a := p0) (f := p1) (t := p2) h x1 x2
  refine ⟨fun α' => α' = z_al α (b_brk σ x p0 p1 p2), z_breakdown (z_f (b_brk σ x p0 p1 p2).1), (b_brk σ x p0 p1 p2).2.1, w, (m_brk (b_brk σ x p0 p1 p2).2.1 w p0 p1 p2), ?_, fun α' hq => ?_, z_mk hV hF S hw r_brk (fun E hE => ?_), fun α' hq => ?_⟩
  · rw [hw]
    exact w_breakdown hV.v5 hV.out (z_fE hF) (z_end hF (k_brk (hV.ok h) (by omega)))
  · subst hq
    exact n_brk hV.al.J6 hN hK hRw
  · have := z_fE hF E hE
    unfold z_breakdown
    simp only []
    repeat' split
    all_goals decide
  · subst hq
    exact hV.al.J6
theorem y_repair {G : bp_X} {p0 : Int32} (hV : z_V α σ) (h : v_Inv σ x) (hroom : bt_us α + 110 ≤ bp_max) : ∃ (Q : bt_A → Prop) (k : Int32) (σ1 w : bt_X) (R : m_Rt), bq_S G mL_repair 11 [.ref (bt_ad α 5 0), .int p0, .ref (bt_ad α 8 5)] (bt α σ x) (z_P α Q (.inl k) σ1 w) ∧
    (∀ α', Q α' → bq_S G mX6_repair 2 [.ref (bt_ad α' 6 0), .int p0] (bt α' σ1 w) (bq_ret (some (.int R.1)) (bt α' R.2.1 R.2.2))) ∧ z_E Q k R ∧ (∀ α', Q α' → m_J α') ∧ (R.1 = nI 0 ∨ R.1 = nI 1) := by
  have hF : z_F σ x (b_rep σ x p0) _ := f_rep
  obtain ⟨x1, x2, -⟩ := z_rx (F := z_f (b_rep σ x p0).1) (x := (b_rep σ x p0).2.2)
  obtain ⟨w, hw⟩ : ∃ w, w = z_x (z_f (b_rep σ x p0).1) (b_rep σ x p0).2.2 := ⟨_, rfl⟩
  rw [← hw] at x1 x2
  obtain ⟨hN, hK, hT, hRw⟩ := z_rr h hF.2.1 (hF.2.2.1.trans x2)
  have S := s_rep (w := w) (a := p0) h x1 x2
  refine ⟨fun α' => α' = z_al α (b_rep σ x p0), z_repair (z_f (b_rep σ x p0).1), (b_rep σ x p0).2.1, w, (m_rep (b_rep σ x p0).2.1 w p0), ?_, fun α' hq => ?_, z_mk hV hF S.1 hw r_rep (fun E hE => ?_), fun α' hq => ?_, ?_⟩
  · rw [hw]
    exact w_repair hV.v5 hV.out (z_fE hF) (fun u hu => S.2 u hu) (z_end hF (k_rep (hV.ok h) (by omega)))
  · subst hq
    exact n_rep hV.al.J6 hN
  · have := z_fE hF E hE
    unfold z_repair
    simp only []
    repeat' split
    all_goals decide
  · subst hq
    exact hV.al.J6
  · unfold m_rep
    cases b_ix (m_nm (b_rep σ x p0).2.1) p0 with
    | none => exact Or.inl rfl
    | some m =>
      simp only []
      split
      · exact Or.inl rfl
      · exact Or.inr rfl
theorem y_setSetup {G : bp_X} {p0 p1 p2 : Int32} (hV : z_V α σ) (h : v_Inv σ x) (hroom : bt_us α + 110 ≤ bp_max) : ∃ (Q : bt_A → Prop) (k : Int32) (σ1 w : bt_X) (R : m_Rt), bq_S G mL_setSetup 11 [.ref (bt_ad α 5 0), .int p0, .int p1, .int p2, .ref (bt_ad α 8 5)] (bt α σ x) (z_P α Q (.inl k) σ1 w) ∧
    (∀ α', Q α' → bq_S G mX6_setSetup 2 [.ref (bt_ad α' 6 0), .int p0, .int p1, .int p2] (bt α' σ1 w) (bq_ret (some (.int R.1)) (bt α' R.2.1 R.2.2))) ∧ z_E Q k R ∧ (∀ α', Q α' → m_J α') := by
  have hF : z_F σ x (b_set σ x p0 p1 p2) _ := f_set
  obtain ⟨x1, x2, -⟩ := z_rx (F := z_f (b_set σ x p0 p1 p2).1) (x := (b_set σ x p0 p1 p2).2.2)
  obtain ⟨w, hw⟩ : ∃ w, w = z_x (z_f (b_set σ x p0 p1 p2).1) (b_set σ x p0 p1 p2).2.2 := ⟨_, rfl⟩
  rw [← hw] at x1 x2
  obtain ⟨hN, hK, hT, hRw⟩ := z_rr h hF.2.1 (hF.2.2.1.trans x2)
  have S := s_setp (w := w) (f := p0) (g := p1) (t := p2) h x1 x2
  refine ⟨fun α' => α' = z_al α (b_set σ x p0 p1 p2), z_setSetup (z_f (b_set σ x p0 p1 p2).1), (b_set σ x p0 p1 p2).2.1, w, (m_set (b_set σ x p0 p1 p2).2.1 w p0 p1 p2), ?_, fun α' hq => ?_, z_mk hV hF S hw r_set (fun E hE => ?_), fun α' hq => ?_⟩
  · rw [hw]
    exact w_setSetup hV.v5 hV.out (z_fE hF) (z_end hF (k_set (hV.ok h) (by omega)))
  · subst hq
    exact n_set hV.al.J6 
  · have := z_fE hF E hE
    unfold z_setSetup
    simp only []
    repeat' split
    all_goals decide
  · subst hq
    exact hV.al.J6
theorem y_place {G : bp_X} {p0 : Int32} (hV : z_V α σ) (h : v_Inv σ x) (hroom : bt_us α + 110 ≤ bp_max) : ∃ (Q : bt_A → Prop) (k : Int32) (σ1 w : bt_X) (R : m_Rt), bq_S G mL_place 11 [.ref (bt_ad α 5 0), .int p0, .ref (bt_ad α 8 5)] (bt α σ x) (z_P α Q (.inl k) σ1 w) ∧
    (∀ α', Q α' → bq_S G mX6_place 5 [.ref (bt_ad α' 6 0), .int p0] (bt α' σ1 w) (bq_ret (some (.int R.1)) (bt α' R.2.1 R.2.2))) ∧ z_E Q k R ∧ (∀ α', Q α' → m_J α') := by
  have hF : z_F σ x (b_plcF σ x p0) _ := f_plc
  obtain ⟨x1, x2, -⟩ := z_rx (F := z_f (b_plcF σ x p0).1) (x := (b_plcF σ x p0).2.2)
  obtain ⟨w, hw⟩ : ∃ w, w = z_x (z_f (b_plcF σ x p0).1) (b_plcF σ x p0).2.2 := ⟨_, rfl⟩
  rw [← hw] at x1 x2
  obtain ⟨hN, hK, hT, hRw⟩ := z_rr h hF.2.1 (hF.2.2.1.trans x2)
  have S := s_place (w := w) (a := p0) h x1 x2
  refine ⟨fun α' => α' = z_al α (b_plcF σ x p0), z_place (z_f (b_plcF σ x p0).1), (b_plcF σ x p0).2.1, w, (m_place (b_plcF σ x p0).2.1 w p0), ?_, fun α' hq => ?_, z_mk hV hF S hw r_place (fun E hE => ?_), fun α' hq => ?_⟩
  · rw [hw]
    exact w_place hV.v5 hV.out (z_fE hF) (z_end hF (k_place (hV.ok h) (by omega) (v_hcnt h)))
  · subst hq
    exact n_place hV.al.J6 hN hK hRw (s_placeC h x1 x2)
  · have := z_fE hF E hE
    unfold z_place
    simp only []
    repeat' split
    all_goals decide
  · subst hq
    exact hV.al.J6
theorem y_rush {G : bp_X} {p0 : Int32} (hV : z_V α σ) (h : v_Inv σ x) (hroom : bt_us α + 110 ≤ bp_max) : ∃ (Q : bt_A → Prop) (k : Int32) (σ1 w : bt_X) (R : m_Rt), bq_S G mL_rush 12 [.ref (bt_ad α 5 0), .int p0, .ref (bt_ad α 8 5)] (bt α σ x) (z_P α Q (.inl k) σ1 w) ∧
    (∀ α', Q α' → bq_S G mX6_rush 5 [.ref (bt_ad α' 6 0), .int p0] (bt α' σ1 w) (bq_ret (some (.int R.1)) (bt α' R.2.1 R.2.2))) ∧ z_E Q k R ∧ (∀ α', Q α' → m_J α') := by
  have hF : z_F σ x (b_rshF σ x p0) _ := f_rsh
  obtain ⟨x1, x2, -⟩ := z_rx (F := z_f (b_rshF σ x p0).1) (x := (b_rshF σ x p0).2.2)
  obtain ⟨w, hw⟩ : ∃ w, w = z_x (z_f (b_rshF σ x p0).1) (b_rshF σ x p0).2.2 := ⟨_, rfl⟩
  rw [← hw] at x1 x2
  obtain ⟨hN, hK, hT, hRw⟩ := z_rr h hF.2.1 (hF.2.2.1.trans x2)
  have S := s_rush (w := w) (a := p0) h x1 x2
  refine ⟨fun α' => α' = z_al α (b_rshF σ x p0), z_rush (z_f (b_rshF σ x p0).1), (b_rshF σ x p0).2.1, w, (m_rush (b_rshF σ x p0).2.1 w p0), ?_, fun α' hq => ?_, z_mk hV hF S.1 hw r_rush (fun E hE => ?_), fun α' hq => ?_⟩
  · rw [hw]
    exact w_rush hV.v5 hV.out (z_fE hF) (z_end hF (k_rush (hV.ok h) (by omega) (v_hcnt h)))
  · subst hq
    exact n_rush hV.al.J6 hN hK hRw (fun q j e => (S.2 q j e).1) (fun q j e => (S.2 q j e).2)
  · have := z_fE hF E hE
    unfold z_rush
    simp only []
    repeat' split
    all_goals decide
  · subst hq
    exact hV.al.J6
theorem y_remove {G : bp_X} {p0 : Int32} (hV : z_V α σ) (h : v_Inv σ x) (hroom : bt_us α + 110 ≤ bp_max) : ∃ (Q : bt_A → Prop) (k : Int32) (σ1 w : bt_X) (R : m_Rt), bq_S G mL_remove 11 [.ref (bt_ad α 5 0), .int p0, .ref (bt_ad α 8 5)] (bt α σ x) (z_P α Q (.inl k) σ1 w) ∧
    (∀ α', Q α' → bq_S G mX6_remove 5 [.ref (bt_ad α' 6 0), .int p0] (bt α' σ1 w) (bq_ret (some (.int R.1)) (bt α' R.2.1 R.2.2))) ∧ z_E Q k R ∧ (∀ α', Q α' → m_J α') := by
  have hF : z_F σ x (b_remF σ x p0) _ := f_rem
  obtain ⟨x1, x2, -⟩ := z_rx (F := z_f (b_remF σ x p0).1) (x := (b_remF σ x p0).2.2)
  obtain ⟨w, hw⟩ : ∃ w, w = z_x (z_f (b_remF σ x p0).1) (b_remF σ x p0).2.2 := ⟨_, rfl⟩
  rw [← hw] at x1 x2
  obtain ⟨hN, hK, hT, hRw⟩ := z_rr h hF.2.1 (hF.2.2.1.trans x2)
  have S := s_rem (w := w) (a := p0) h x1 x2
  refine ⟨fun α' => α' = z_al α (b_remF σ x p0), z_remove (z_f (b_remF σ x p0).1), (b_remF σ x p0).2.1, w, (m_remv (b_remF σ x p0).2.1 w p0), ?_, fun α' hq => ?_, z_mk hV hF S.1 hw r_remv (fun E hE => ?_), fun α' hq => ?_⟩
  · rw [hw]
    exact w_remove hV.v5 hV.out (z_fE hF) (z_end hF (k_rem (hV.ok h) (by omega)))
  · subst hq
    exact n_remv hV.al.J6 hN hK hRw S.2
  · have := z_fE hF E hE
    unfold z_remove
    simp only []
    repeat' split
    all_goals decide
  · subst hq
    exact hV.al.J6
theorem y_swap {G : bp_X} {p0 p1 : Int32} (hV : z_V α σ) (h : v_Inv σ x) (hroom : bt_us α + 110 ≤ bp_max) : ∃ (Q : bt_A → Prop) (k : Int32) (σ1 w : bt_X) (R : m_Rt), bq_S G mL_swap 11 [.ref (bt_ad α 5 0), .int p0, .int p1, .ref (bt_ad α 8 5)] (bt α σ x) (z_P α Q (.inl k) σ1 w) ∧
    (∀ α', Q α' → bq_S G mX6_swap 4 [.ref (bt_ad α' 6 0), .int p0, .int p1] (bt α' σ1 w) (bq_ret (some (.int R.1)) (bt α' R.2.1 R.2.2))) ∧ z_E Q k R ∧ (∀ α', Q α' → m_J α') := by
  have hF : z_F σ x (b_swpF σ x p0 p1) _ := f_swp
  obtain ⟨x1, x2, -⟩ := z_rx (F := z_f (b_swpF σ x p0 p1).1) (x := (b_swpF σ x p0 p1).2.2)
  obtain ⟨w, hw⟩ : ∃ w, w = z_x (z_f (b_swpF σ x p0 p1).1) (b_swpF σ x p0 p1).2.2 := ⟨_, rfl⟩
  rw [← hw] at x1 x2
  obtain ⟨hN, hK, hT, hRw⟩ := z_rr h hF.2.1 (hF.2.2.1.trans x2)
  have S := s_swap (w := w) (a := p0) (p := p1) h x1 x2
  refine ⟨fun α' => α' = z_al α (b_swpF σ x p0 p1), z_swap (z_f (b_swpF σ x p0 p1).1), (b_swpF σ x p0 p1).2.1, w, (m_swap (b_swpF σ x p0 p1).2.1 w p0 p1), ?_, fun α' hq => ?_, z_mk hV hF S hw r_swap (fun E hE => ?_), fun α' hq => ?_⟩
  · rw [hw]
    exact w_swap hV.v5 hV.out (z_fE hF) (z_end hF (k_swp (hV.ok h) (by omega)))
  · subst hq
    exact n_swap hV.al.J6 hN hK hRw
  · have := z_fE hF E hE
    unfold z_swap
    simp only []
    repeat' split
    all_goals decide
  · subst hq
    exact hV.al.J6
theorem q_placed {p0 : Int32} : (b_plcd σ x p0).2.1 = σ := by
  unfold b_plcd
  repeat' split
  all_goals rfl
theorem u_placed {p0 : Int32} : (b_plcd σ x p0).2.2 = x := by
  unfold b_plcd
  repeat' split
  all_goals rfl
theorem y_placed {G : bp_X} {p0 : Int32} (hV : z_V α σ) (h : v_Inv σ x) (hroom : bt_us α + 110 ≤ bp_max) : ∃ (Q : bt_A → Prop) (k : Int32) (σ1 w : bt_X) (R : m_Rt), bq_S G mL_placed 8 [.ref (bt_ad α 5 0), .int p0, .ref (bt_ad α 8 5)] (bt α σ x) (z_P α Q (.inl k) σ1 w) ∧
    (∀ α', Q α' → bq_S G mX6_placed 2 [.ref (bt_ad α' 6 0), .int p0] (bt α' σ1 w) (bq_ret (some (.int R.1)) (bt α' R.2.1 R.2.2))) ∧ z_E Q k R ∧ (∀ α', Q α' → m_J α') := by
  have hF : z_F σ x (b_plcd σ x p0) _ := f_plcd
  obtain ⟨x1, x2, -⟩ := z_rx (F := z_f (b_plcd σ x p0).1) (x := (b_plcd σ x p0).2.2)
  obtain ⟨w, hw⟩ : ∃ w, w = z_x (z_f (b_plcd σ x p0).1) (b_plcd σ x p0).2.2 := ⟨_, rfl⟩
  rw [← hw] at x1 x2
  obtain ⟨hN, hK, hT, hRw⟩ := z_rr h hF.2.1 (hF.2.2.1.trans x2)
  have e1 : (b_plcd σ x p0).2.1 = σ := q_placed
  rw [e1] at hN hK hT
  have e2 : (b_plcd σ x p0).2.2 = x := u_placed
  rw [e2] at x1 x2
  have S := s_plcd (w := w) (a := p0) h x1 x2
  refine ⟨fun α' => α' = z_al α (b_plcd σ x p0), z_placed (z_f (b_plcd σ x p0).1), (b_plcd σ x p0).2.1, w, (m_plcd σ w p0), ?_, fun α' hq => ?_, z_mk hV hF S hw (by rw [e1]; exact r_plcd) (fun E hE => ?_), fun α' hq => ?_⟩
  · rw [hw]
    exact w_placed hV.v5 hV.out (z_fE hF) (z_end hF (k_plcd (hV.ok h) (by omega)))
  · subst hq
    rw [e1]; exact n_plcd hV.al.J6 hN
  · have := z_fE hF E hE
    unfold z_placed
    simp only []
    repeat' split
    all_goals decide
  · subst hq
    exact hV.al.J6
theorem q_placedAt {p0 p1 : Int32} : (b_plAt σ x p0 p1).2.1 = σ := by
  unfold b_plAt
  repeat' split
  all_goals rfl
theorem u_placedAt {p0 p1 : Int32} : (b_plAt σ x p0 p1).2.2 = x := by
  unfold b_plAt
  repeat' split
  all_goals rfl
theorem y_placedAt {G : bp_X} {p0 p1 : Int32} (hV : z_V α σ) (h : v_Inv σ x) (hroom : bt_us α + 110 ≤ bp_max) : ∃ (Q : bt_A → Prop) (k : Int32) (σ1 w : bt_X) (R : m_Rt), bq_S G mL_placedAt 8 [.ref (bt_ad α 5 0), .int p0, .int p1, .ref (bt_ad α 8 5)] (bt α σ x) (z_P α Q (.inl k) σ1 w) ∧
    (∀ α', Q α' → bq_S G mX6_placedAt 2 [.ref (bt_ad α' 6 0), .int p0, .int p1] (bt α' σ1 w) (bq_ret (some (.int R.1)) (bt α' R.2.1 R.2.2))) ∧ z_E Q k R ∧ (∀ α', Q α' → m_J α') := by
  have hF : z_F σ x (b_plAt σ x p0 p1) _ := f_plAt
  obtain ⟨x1, x2, -⟩ := z_rx (F := z_f (b_plAt σ x p0 p1).1) (x := (b_plAt σ x p0 p1).2.2)
  obtain ⟨w, hw⟩ : ∃ w, w = z_x (z_f (b_plAt σ x p0 p1).1) (b_plAt σ x p0 p1).2.2 := ⟨_, rfl⟩
  rw [← hw] at x1 x2
  obtain ⟨hN, hK, hT, hRw⟩ := z_rr h hF.2.1 (hF.2.2.1.trans x2)
  have e1 : (b_plAt σ x p0 p1).2.1 = σ := q_placedAt
  rw [e1] at hN hK hT
  have e2 : (b_plAt σ x p0 p1).2.2 = x := u_placedAt
  rw [e2] at x1 x2
  have S := s_plAt (w := w) (a := p0) (p := p1) h x1 x2
  refine ⟨fun α' => α' = z_al α (b_plAt σ x p0 p1), z_placedAt (z_f (b_plAt σ x p0 p1).1), (b_plAt σ x p0 p1).2.1, w, (m_plAt σ w p0 p1), ?_, fun α' hq => ?_, z_mk hV hF S hw (by rw [e1]; exact r_plAt) (fun E hE => ?_), fun α' hq => ?_⟩
  · rw [hw]
    exact w_placedAt hV.v5 hV.out (z_fE hF) (z_end hF (k_plAt (hV.ok h) (by omega)))
  · subst hq
    rw [e1]; exact n_plAt hV.al.J6 hN hRw
  · have := z_fE hF E hE
    unfold z_placedAt
    simp only []
    repeat' split
    all_goals decide
  · subst hq
    exact hV.al.J6
theorem q_startOf {p0 p1 : Int32} : (b_st σ x p0 p1).2.1 = σ := by
  unfold b_st
  repeat' split
  all_goals rfl
theorem u_startOf {p0 p1 : Int32} : (b_st σ x p0 p1).2.2 = x := by
  unfold b_st
  repeat' split
  all_goals rfl
theorem y_startOf {G : bp_X} {p0 p1 : Int32} (hV : z_V α σ) (h : v_Inv σ x) (hroom : bt_us α + 110 ≤ bp_max) : ∃ (Q : bt_A → Prop) (k : Int32) (σ1 w : bt_X) (R : m_Rt), bq_S G mL_startOf 9 [.ref (bt_ad α 5 0), .int p0, .int p1, .ref (bt_ad α 8 5)] (bt α σ x) (z_P α Q (.inl k) σ1 w) ∧
    (∀ α', Q α' → bq_S G mX6_startOf 5 [.ref (bt_ad α' 6 0), .int p0, .int p1] (bt α' σ1 w) (bq_ret (some (.int R.1)) (bt α' R.2.1 R.2.2))) ∧ z_E Q k R ∧ (∀ α', Q α' → m_J α') := by
  have hF : z_F σ x (b_st σ x p0 p1) _ := f_st
  obtain ⟨x1, x2, -⟩ := z_rx (F := z_f (b_st σ x p0 p1).1) (x := (b_st σ x p0 p1).2.2)
  obtain ⟨w, hw⟩ : ∃ w, w = z_x (z_f (b_st σ x p0 p1).1) (b_st σ x p0 p1).2.2 := ⟨_, rfl⟩
  rw [← hw] at x1 x2
  obtain ⟨hN, hK, hT, hRw⟩ := z_rr h hF.2.1 (hF.2.2.1.trans x2)
  have e1 : (b_st σ x p0 p1).2.1 = σ := q_startOf
  rw [e1] at hN hK hT
  have e2 : (b_st σ x p0 p1).2.2 = x := u_startOf
  rw [e2] at x1 x2
  have S := s_st (w := w) (a := p0) (b := p1) h x1 x2
  refine ⟨fun α' => α' = z_al α (b_st σ x p0 p1), z_startOf (z_f (b_st σ x p0 p1).1), (b_st σ x p0 p1).2.1, w, (m_stn σ w p0 p1), ?_, fun α' hq => ?_, z_mk hV hF S hw (by rw [e1]; exact r_stn) (fun E hE => ?_), fun α' hq => ?_⟩
  · rw [hw]
    exact w_startOf hV.v5 hV.out (z_fE hF) (z_end hF (k_st (hV.ok h) (by omega)))
  · subst hq
    rw [e1]; exact n_st hV.al.J6 hN hK hRw
  · have := z_fE hF E hE
    unfold z_startOf
    simp only []
    repeat' split
    all_goals decide
  · subst hq
    exact hV.al.J6
theorem q_startByRounds {p0 p1 : Int32} : (b_sbr σ x p0 p1).2.1 = σ := by
  unfold b_sbr
  repeat' split
  all_goals rfl
theorem y_startByRounds {G : bp_X} {p0 p1 : Int32} (hV : z_V α σ) (h : v_Inv σ x) (hroom : bt_us α + 110 ≤ bp_max) : ∃ (Q : bt_A → Prop) (k : Int32) (σ1 w : bt_X) (R : m_Rt), bq_S G mL_startByRounds 9 [.ref (bt_ad α 5 0), .int p0, .int p1, .ref (bt_ad α 8 5)] (bt α σ x) (z_P α Q (.inl k) σ1 w) ∧
    (∀ α', Q α' → bq_S G mX6_startByRounds 5 [.ref (bt_ad α' 6 0), .int p0, .int p1] (bt α' σ1 w) (bq_ret (some (.int R.1)) (bt α' R.2.1 R.2.2))) ∧ z_E Q k R ∧ (∀ α', Q α' → m_J α') := by
  have hF : z_F σ x (b_sbr σ x p0 p1) _ := f_sbr h
  obtain ⟨x1, x2, -⟩ := z_rx (F := z_f (b_sbr σ x p0 p1).1) (x := (b_sbr σ x p0 p1).2.2)
  obtain ⟨w, hw⟩ : ∃ w, w = z_x (z_f (b_sbr σ x p0 p1).1) (b_sbr σ x p0 p1).2.2 := ⟨_, rfl⟩
  rw [← hw] at x1 x2
  obtain ⟨hN, hK, hT, hRw⟩ := z_rr h hF.2.1 (hF.2.2.1.trans x2)
  have e1 : (b_sbr σ x p0 p1).2.1 = σ := q_startByRounds
  rw [e1] at hN hK hT
  have S := s_sbr (w := w) (a := p0) (b := p1) h x1 x2
  refine ⟨fun α' => α' = z_al α (b_sbr σ x p0 p1), z_startByRounds (z_f (b_sbr σ x p0 p1).1), (b_sbr σ x p0 p1).2.1, w, (m_stn σ w p0 p1), ?_, fun α' hq => ?_, z_mk hV hF S hw (by rw [e1]; exact r_stn) (fun E hE => ?_), fun α' hq => ?_⟩
  · rw [hw]
    exact w_startByRounds hV.v5 hV.out (z_fE hF) (z_end hF (k_sbr (hV.ok h) (by omega)))
  · subst hq
    rw [e1]; exact n_sbr hV.al.J6 hN hK hRw
  · have := z_fE hF E hE
    unfold z_startByRounds
    simp only []
    repeat' split
    all_goals decide
  · subst hq
    exact hV.al.J6
theorem q_lateness {p0 : Int32} : (b_late σ x p0).2.1 = σ := by
  unfold b_late
  repeat' split
  all_goals rfl
theorem u_lateness {p0 : Int32} : (b_late σ x p0).2.2 = x := by
  unfold b_late
  repeat' split
  all_goals rfl
theorem y_lateness {G : bp_X} {p0 : Int32} (hV : z_V α σ) (h : v_Inv σ x) (hroom : bt_us α + 110 ≤ bp_max) : ∃ (Q : bt_A → Prop) (k : Int32) (σ1 w : bt_X) (R : m_Rt), bq_S G mL_lateness 9 [.ref (bt_ad α 5 0), .int p0, .ref (bt_ad α 8 5)] (bt α σ x) (z_P α Q (.inl k) σ1 w) ∧
    (∀ α', Q α' → bq_S G mX6_lateness 4 [.ref (bt_ad α' 6 0), .int p0] (bt α' σ1 w) (bq_ret (some (.int R.1)) (bt α' R.2.1 R.2.2))) ∧ z_E Q k R ∧ (∀ α', Q α' → m_J α') := by
  have hF : z_F σ x (b_late σ x p0) _ := f_late
  obtain ⟨x1, x2, -⟩ := z_rx (F := z_f (b_late σ x p0).1) (x := (b_late σ x p0).2.2)
  obtain ⟨w, hw⟩ : ∃ w, w = z_x (z_f (b_late σ x p0).1) (b_late σ x p0).2.2 := ⟨_, rfl⟩
  rw [← hw] at x1 x2
  obtain ⟨hN, hK, hT, hRw⟩ := z_rr h hF.2.1 (hF.2.2.1.trans x2)
  have e1 : (b_late σ x p0).2.1 = σ := q_lateness
  rw [e1] at hN hK hT
  have e2 : (b_late σ x p0).2.2 = x := u_lateness
  rw [e2] at x1 x2
  have S := s_late (w := w) (a := p0) h x1 x2
  refine ⟨fun α' => α' = z_al α (b_late σ x p0), z_lateness (z_f (b_late σ x p0).1), (b_late σ x p0).2.1, w, (m_late σ w p0), ?_, fun α' hq => ?_, z_mk hV hF S hw (by rw [e1]; exact r_late) (fun E hE => ?_), fun α' hq => ?_⟩
  · rw [hw]
    exact w_lateness hV.v5 hV.out (z_fE hF) (z_end hF (k_late (hV.ok h) (by omega)))
  · subst hq
    rw [e1]; exact n_late hV.al.J6 hN hK hRw (v_hP h)
  · have := z_fE hF E hE
    unfold z_lateness
    simp only []
    repeat' split
    all_goals decide
  · subst hq
    exact hV.al.J6
theorem q_slack {p0 p1 : Int32} : (b_slk σ x p0 p1).2.1 = σ := by
  unfold b_slk
  repeat' split
  all_goals rfl
theorem y_slack {G : bp_X} {p0 p1 : Int32} (hV : z_V α σ) (h : v_Inv σ x) (hroom : bt_us α + 110 ≤ bp_max) : ∃ (Q : bt_A → Prop) (k : Int32) (σ1 w : bt_X) (R : m_Rt), bq_S G mL_slack 9 [.ref (bt_ad α 5 0), .int p0, .int p1, .ref (bt_ad α 8 5)] (bt α σ x) (z_P α Q (.inl k) σ1 w) ∧
    (∀ α', Q α' → bq_S G mX6_slack 6 [.ref (bt_ad α' 6 0), .int p0, .int p1] (bt α' σ1 w) (bq_ret (some (.int R.1)) (bt α' R.2.1 R.2.2))) ∧ z_E Q k R ∧ (∀ α', Q α' → m_J α') := by
  have hF : z_F σ x (b_slk σ x p0 p1) _ := f_slk h
  obtain ⟨x1, x2, -⟩ := z_rx (F := z_f (b_slk σ x p0 p1).1) (x := (b_slk σ x p0 p1).2.2)
  obtain ⟨w, hw⟩ : ∃ w, w = z_x (z_f (b_slk σ x p0 p1).1) (b_slk σ x p0 p1).2.2 := ⟨_, rfl⟩
  rw [← hw] at x1 x2
  obtain ⟨hN, hK, hT, hRw⟩ := z_rr h hF.2.1 (hF.2.2.1.trans x2)
  have e1 : (b_slk σ x p0 p1).2.1 = σ := q_slack
  rw [e1] at hN hK hT
  have S := s_slk (w := w) (a := p0) (b := p1) h x1 x2
  refine ⟨fun α' => α' = z_al α (b_slk σ x p0 p1), z_slack (z_f (b_slk σ x p0 p1).1), (b_slk σ x p0 p1).2.1, w, (m_slk σ w p0 p1), ?_, fun α' hq => ?_, z_mk hV hF S hw (by rw [e1]; exact r_slk) (fun E hE => ?_), fun α' hq => ?_⟩
  · rw [hw]
    exact w_slack hV.v5 hV.out (z_fE hF) (z_end hF (k_slk (hV.ok h) (by omega)))
  · subst hq
    rw [e1]; exact n_slk hV.al.J6 hN hK hRw
  · have := z_fE hF E hE
    unfold z_slack
    simp only []
    repeat' split
    all_goals decide
  · subst hq
    exact hV.al.J6
theorem q_criticalAt {p0 : Int32} : (b_crAt σ x p0).2.1 = σ := by
  unfold b_crAt
  repeat' split
  all_goals rfl
theorem y_criticalAt {G : bp_X} {p0 : Int32} (hV : z_V α σ) (h : v_Inv σ x) (hroom : bt_us α + 110 ≤ bp_max) : ∃ (Q : bt_A → Prop) (k : Int32) (σ1 w : bt_X) (R : m_Rt), bq_S G mL_criticalAt 9 [.ref (bt_ad α 5 0), .int p0, .ref (bt_ad α 8 5)] (bt α σ x) (z_P α Q (.inl k) σ1 w) ∧
    (∀ α', Q α' → bq_S G mX6_criticalAt 6 [.ref (bt_ad α' 6 0), .int p0] (bt α' σ1 w) (bq_ret (some (.int R.1)) (bt α' R.2.1 R.2.2))) ∧ z_E Q k R ∧ (∀ α', Q α' → m_J α') := by
  have hF : z_F σ x (b_crAt σ x p0) _ := f_crAt
  obtain ⟨x1, x2, -⟩ := z_rx (F := z_f (b_crAt σ x p0).1) (x := (b_crAt σ x p0).2.2)
  obtain ⟨w, hw⟩ : ∃ w, w = z_x (z_f (b_crAt σ x p0).1) (b_crAt σ x p0).2.2 := ⟨_, rfl⟩
  rw [← hw] at x1 x2
  obtain ⟨hN, hK, hT, hRw⟩ := z_rr h hF.2.1 (hF.2.2.1.trans x2)
  have e1 : (b_crAt σ x p0).2.1 = σ := q_criticalAt
  rw [e1] at hN hK hT
  have S := s_crAt (w := w) (p := p0) h x1 x2
  refine ⟨fun α' => α' = z_al α (b_crAt σ x p0), z_criticalAt (z_f (b_crAt σ x p0).1), (b_crAt σ x p0).2.1, w, (m_crAt σ w p0), ?_, fun α' hq => ?_, z_mk hV hF S.1 hw (by rw [e1]; exact r_crAt) (fun E hE => ?_), fun α' hq => ?_⟩
  · rw [hw]
    exact w_criticalAt hV.v5 hV.out (z_fE hF) (z_end hF (k_crAt (hV.ok h) (by omega)))
  · subst hq
    rw [e1]; exact n_crAt hV.al.J6 hN hK hRw S.2
  · have := z_fE hF E hE
    unfold z_criticalAt
    simp only []
    repeat' split
    all_goals decide
  · subst hq
    exact hV.al.J6
theorem q_setups {p0 : Int32} : (b_sum1 σ x p0).2.1 = σ := by
  unfold b_sum1
  repeat' split
  all_goals rfl
theorem u_setups {p0 : Int32} : (b_sum1 σ x p0).2.2 = x := by
  unfold b_sum1
  repeat' split
  all_goals rfl
theorem y_setups {G : bp_X} {p0 : Int32} (hV : z_V α σ) (h : v_Inv σ x) (hroom : bt_us α + 110 ≤ bp_max) : ∃ (Q : bt_A → Prop) (k : Int32) (σ1 w : bt_X) (R : m_Rt), bq_S G mL_setups 8 [.ref (bt_ad α 5 0), .int p0, .ref (bt_ad α 8 5)] (bt α σ x) (z_P α Q (.inl k) σ1 w) ∧
    (∀ α', Q α' → bq_S G mX6_setups 2 [.ref (bt_ad α' 6 0), .int p0] (bt α' σ1 w) (bq_ret (some (.int R.1)) (bt α' R.2.1 R.2.2))) ∧ z_E Q k R ∧ (∀ α', Q α' → m_J α') := by
  have hF : z_F σ x (b_sum1 σ x p0) _ := f_setups
  obtain ⟨x1, x2, -⟩ := z_rx (F := z_f (b_sum1 σ x p0).1) (x := (b_sum1 σ x p0).2.2)
  obtain ⟨w, hw⟩ : ∃ w, w = z_x (z_f (b_sum1 σ x p0).1) (b_sum1 σ x p0).2.2 := ⟨_, rfl⟩
  rw [← hw] at x1 x2
  obtain ⟨hN, hK, hT, hRw⟩ := z_rr h hF.2.1 (hF.2.2.1.trans x2)
  have e1 : (b_sum1 σ x p0).2.1 = σ := q_setups
  rw [e1] at hN hK hT
  have e2 : (b_sum1 σ x p0).2.2 = x := u_setups
  rw [e2] at x1 x2
  have S := s_setups (w := w) (a := p0) h x1 x2
  refine ⟨fun α' => α' = z_al α (b_sum1 σ x p0), z_setups (z_f (b_sum1 σ x p0).1), (b_sum1 σ x p0).2.1, w, ((m_setups σ w p0).1, σ, (m_setups σ w p0).2), ?_, fun α' hq => ?_, z_mk hV hF S hw (by rw [e1]; exact r_setups) (fun E hE => ?_), fun α' hq => ?_⟩
  · rw [hw]
    exact w_setups hV.v5 hV.out (z_fE hF) (z_end hF (k_setups (hV.ok h) (by omega)))
  · subst hq
    rw [e1]; exact n_setups hV.al.J6 hN hK hRw
  · have := z_fE hF E hE
    unfold z_setups
    simp only []
    repeat' split
    all_goals decide
  · subst hq
    exact hV.al.J6
theorem q_loads {p0 : Int32} : (b_load1 σ x p0).2.1 = σ := by
  unfold b_load1
  repeat' split
  all_goals rfl
theorem u_loads {p0 : Int32} : (b_load1 σ x p0).2.2 = x := by
  unfold b_load1
  repeat' split
  all_goals rfl
theorem y_loads {G : bp_X} {p0 : Int32} (hV : z_V α σ) (h : v_Inv σ x) (hroom : bt_us α + 110 ≤ bp_max) : ∃ (Q : bt_A → Prop) (k : Int32) (σ1 w : bt_X) (R : m_Rt), bq_S G mL_loads 8 [.ref (bt_ad α 5 0), .int p0, .ref (bt_ad α 8 5)] (bt α σ x) (z_P α Q (.inl k) σ1 w) ∧
    (∀ α', Q α' → bq_S G mX6_loads 2 [.ref (bt_ad α' 6 0), .int p0] (bt α' σ1 w) (bq_ret (some (.int R.1)) (bt α' R.2.1 R.2.2))) ∧ z_E Q k R ∧ (∀ α', Q α' → m_J α') := by
  have hF : z_F σ x (b_load1 σ x p0) _ := f_loads
  obtain ⟨x1, x2, -⟩ := z_rx (F := z_f (b_load1 σ x p0).1) (x := (b_load1 σ x p0).2.2)
  obtain ⟨w, hw⟩ : ∃ w, w = z_x (z_f (b_load1 σ x p0).1) (b_load1 σ x p0).2.2 := ⟨_, rfl⟩
  rw [← hw] at x1 x2
  obtain ⟨hN, hK, hT, hRw⟩ := z_rr h hF.2.1 (hF.2.2.1.trans x2)
  have e1 : (b_load1 σ x p0).2.1 = σ := q_loads
  rw [e1] at hN hK hT
  have e2 : (b_load1 σ x p0).2.2 = x := u_loads
  rw [e2] at x1 x2
  have S := s_load (w := w) (a := p0) h x1 x2
  refine ⟨fun α' => α' = z_al α (b_load1 σ x p0), z_loads (z_f (b_load1 σ x p0).1), (b_load1 σ x p0).2.1, w, ((m_loads σ w p0).1, σ, (m_loads σ w p0).2), ?_, fun α' hq => ?_, z_mk hV hF S hw (by rw [e1]; exact r_loads) (fun E hE => ?_), fun α' hq => ?_⟩
  · rw [hw]
    exact w_loads hV.v5 hV.out (z_fE hF) (z_end hF (k_loads (hV.ok h) (by omega)))
  · subst hq
    rw [e1]; exact n_loads hV.al.J6 hN hT hRw
  · have := z_fE hF E hE
    unfold z_loads
    simp only []
    repeat' split
    all_goals decide
  · subst hq
    exact hV.al.J6
end VPK
