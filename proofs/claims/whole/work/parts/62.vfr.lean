/-! ===== what the reference leaves as it was ===== -/
section VFR
variable {σ x w : bt_X}
def m_Fr (σ w : bt_X) (R : m_Rt) : Prop := R.2.1.2 = σ.2 ∧ R.2.2.1 8 5 0 = w.1 8 5 0
theorem m_Fr.i {v : Int32} {σ' x' : bt_X} (e : σ'.2 = σ.2) (h : x'.1 8 5 0 = w.1 8 5 0) : m_Fr σ w (v, σ', x') := ⟨e, h⟩
theorem m_5t {v : Int32} : (m_thr w v).1 8 5 0 = w.1 8 5 0 := m_thr_n (by omega)
theorem m_5w : (m_wS σ w).1 8 5 0 = w.1 8 5 0 := m_works_n (by omega)
theorem m_sml2_n5 {m : Nat} {c : Int32} {c' i k : Nat} (h : ¬ c' = 6) : ∀ (n p : Nat) (x : bt_X), (m_sml2 σ m c n p x).1 c' i k = x.1 c' i k := by
  intro n
  induction n with
  | zero => intro p x; rfl
  | succ n ih => intro p x; unfold m_sml2; rw [ih, m_thr_n (by omega)]
theorem r_addM : m_Fr σ w (m_addM σ w) := by
  unfold m_addM
  split
  · exact .i rfl m_5t
  · exact .i rfl m_5t
theorem r_addJ {d : Int32} : m_Fr σ w (m_addJ σ w d) := by
  unfold m_addJ
  repeat' split
  all_goals exact .i rfl m_5t
theorem r_addO {a b l f t : Int32} : m_Fr σ w (m_addO σ w a b l f t) := by
  unfold m_addO m_addOv
  repeat' split
  all_goals exact .i rfl (m_5t.trans m_5t)
theorem r_setMag {a c : Int32} : m_Fr σ w (m_setMag σ w a c) := by
  have h : ∀ m, (m_smx σ w m c).1 8 5 0 = w.1 8 5 0 := fun m => by unfold m_smx; rw [m_sml2_n5 (by omega)]; exact m_5t
  unfold m_setMag
  repeat' split
  all_goals first | exact .i rfl m_5t | exact .i rfl (h _)
theorem r_brk {a f t : Int32} : m_Fr σ w (m_brk σ w a f t) := by
  unfold m_brk
  repeat' split
  all_goals first | exact .i rfl m_5t | exact .i rfl (m_5w.trans m_5t)
theorem r_rep {a : Int32} : m_Fr σ w (m_rep σ w a) := by
  unfold m_rep
  split
  all_goals exact .i rfl m_5t
theorem r_set {f g t : Int32} : m_Fr σ w (m_set σ w f g t) := by
  unfold m_set
  repeat' split
  all_goals exact .i rfl m_5t
theorem r_mvd {j : Nat} {v : Int32} {y : bt_X} (h : y.1 8 5 0 = w.1 8 5 0) : m_Fr σ w (m_mvd σ j v y) := .i rfl (m_5w.trans h)
theorem r_place {a : Int32} : m_Fr σ w (m_place σ w a) := by
  unfold m_place
  split
  · exact r_mvd (((m_plc_f _ _ _).2 _ _ _ (by omega)).trans m_5t)
  · exact .i rfl m_5t
theorem r_rush {a : Int32} : m_Fr σ w (m_rush σ w a) := by
  unfold m_rush
  split
  · exact r_mvd (((m_rsh_f _ _ _).2 _ _ _ (by omega)).trans m_5t)
  · exact .i rfl m_5t
theorem r_remv {a : Int32} : m_Fr σ w (m_remv σ w a) := by
  unfold m_remv
  split
  · exact .i rfl m_5t
  · split
    · exact .i rfl m_5t
    · exact r_mvd (((m_tks_f _ _ _).2 _ _ _ (by omega)).trans m_5t)
theorem m_5x {m q : Nat} : (m_xc w m q).1 8 5 0 = w.1 8 5 0 := m_xc_n (by omega)
theorem r_swap {a p : Int32} : m_Fr σ w (m_swap σ w a p) := by
  unfold m_swap
  repeat' split
  all_goals first | exact .i rfl m_5t | exact .i rfl (m_5t.trans (m_5x.trans (m_5w.trans (m_5x.trans m_5t)))) | exact .i rfl (m_5w.trans (m_5x.trans m_5t))
theorem r_plcd {a : Int32} : m_Fr σ w (m_plcd σ w a) := by
  unfold m_plcd
  split
  · exact .i rfl (m_5t.trans m_5t)
  · exact .i rfl m_5t
theorem r_plAt {a p : Int32} : m_Fr σ w (m_plAt σ w a p) := by
  unfold m_plAt
  repeat' split
  all_goals first | exact .i rfl (m_5t.trans m_5t) | exact .i rfl m_5t
theorem r_stn {a b : Int32} : m_Fr σ w (m_stn σ w a b) := by
  unfold m_stn
  split
  all_goals exact .i rfl (m_5w.trans m_5t)
theorem r_late {a : Int32} : m_Fr σ w (m_late σ w a) := by
  unfold m_late
  repeat' split
  all_goals first | exact .i rfl m_5t | exact .i rfl (m_5w.trans m_5t)
theorem r_spanF : m_Fr σ w (m_spanF σ w) := .i rfl (m_5w.trans m_5t)
theorem r_slk {a b : Int32} : m_Fr σ w (m_slk σ w a b) := by
  unfold m_slk
  split
  all_goals first | exact .i rfl m_5t | exact .i rfl ((m_back_n (by omega)).trans m_5t)
theorem r_crit : m_Fr σ w (m_crit σ w) := .i rfl ((m_walks_n (by omega)).trans m_5t)
theorem r_crAt {p : Int32} : m_Fr σ w (m_crAt σ w p) := by
  unfold m_crAt
  split
  all_goals exact .i rfl (m_5t.trans (m_walks_n (by omega)))
theorem r_setups {a : Int32} : m_Fr σ w (m_setups σ w a |> fun r => (r.1, σ, r.2)) := by
  unfold m_setups
  split
  all_goals exact .i rfl m_5t
theorem r_loads {a : Int32} : m_Fr σ w (m_loads σ w a |> fun r => (r.1, σ, r.2)) := by
  unfold m_loads
  split
  · exact .i rfl m_5t
  · refine .i rfl ?_
    show (m_lds σ w _).1 8 5 0 = _
    unfold m_lds
    rw [(m_lr_f _ _ _).2 _ _ _ (by omega), m_lz_n (by omega)]
    exact m_5t
end VFR
