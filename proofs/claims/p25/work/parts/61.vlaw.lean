/-! ===== the law: what stands between calls ===== -/
section VLW
variable {α α' : bt_A} {σ σ' x x' w : bt_X}
/-- what a call of the class leaves as it was, and how it can end -/
def z_F (σ x : bt_X) (F : b_R) (P : String → Prop) : Prop := F.2.1.2 = σ.2 ∧ v_rA σ F.2.1 ∧ v_rA x F.2.2 ∧ (∀ v, F.1 = .inl v → ∃ u, v = some (.int u)) ∧ ∀ E, F.1 = .inr E → P E
theorem z_Fi {P : String → Prop} {E : String} (h : P E) (hx : v_rA x x') : z_F σ x (.inr E, σ, x') P := ⟨rfl, v_rA.refl, hx, (fun v e => by cases e), (fun E' e => by cases e; exact h)⟩
theorem z_Fl {P : String → Prop} {u : Int32} (e : σ'.2 = σ.2) (h : v_rA σ σ') (hx : v_rA x x') : z_F σ x (.inl (some (.int u)), σ', x') P := ⟨e, h, hx, (fun v e => by cases e; exact ⟨_, rfl⟩), (fun E' e => by cases e)⟩
theorem v_rA_gs {c i k : Nat} {v : Int32} (h : ¬ c = 6 ∧ ¬ (c = 8 ∧ 10 ≤ i)) : v_rA x (bt_gs x c i k v) := fun c' i' k' hc => b_gs_ne (by omega)
theorem v_rA_all : v_rA x (b_all σ x).2 := fun c i k hc => v_all_n (by omega)
theorem z_fE {F : b_R} {P : String → Prop} (hF : z_F σ x F P) : ∀ E, z_f F.1 = .inr E → P E := by
  obtain ⟨o, σ1, x1⟩ := F
  intro E hE
  cases o with
  | inl v =>
    obtain ⟨u, rfl⟩ := hF.2.2.2.1 v rfl
    cases hE
  | inr E' => cases hE; exact hF.2.2.2.2 _ rfl
theorem z_rr (h : v_Inv σ x) (h1 : v_rA σ σ') (h2 : v_rA x w) : m_Nn σ' ∧ m_K σ' ∧ m_T σ' ∧ m_Rw w := by
  obtain ⟨-, ⟨⟨c1, c2, c3⟩, c4, c5, -, -⟩, -, ⟨e1, -, -⟩⟩ := h
  refine ⟨⟨by rw [h1 6 0 1 (by omega)]; exact c1, by rw [h1 6 0 7 (by omega)]; exact c2, fun j hj => by rw [h1 8 19 j (by omega)]; exact c3 j hj⟩, fun p hp => by rw [h1 8 21 p (by omega), h1 8 23 p (by omega)]; exact c4 p hp, fun p hp => by rw [h1 8 24 p (by omega)]; exact c5 p hp, e1.ext (fun i k hi => h2 8 i k (by omega))⟩
/-! the calls, one by one -/
theorem f_setMag {a c : Int32} : z_F σ x (b_setMag σ x a c) (fun E => E = b_IO ∨ E = b_IA ∨ E = b_IS) := by
  unfold b_setMag
  repeat' split
  all_goals first | exact z_Fi (by simp) v_rA.refl | exact z_Fl rfl (v_rA_gs (by omega)) v_rA.refl
theorem f_brk {a f t : Int32} : z_F σ x (b_brk σ x a f t) (fun E => E = b_IO ∨ E = b_IA) := by
  unfold b_brk
  repeat' split
  all_goals first | exact z_Fi (by simp) v_rA.refl | exact z_Fl rfl (((v_rA_gs (by omega)).trans (v_rA_gs (by omega))).trans (v_rA_gs (by omega))) v_rA_all
theorem f_rep {a : Int32} : z_F σ x (b_rep σ x a) (fun E => E = b_IO) := by
  unfold b_rep
  repeat' split
  all_goals first | exact z_Fi rfl v_rA.refl | exact z_Fl rfl (v_rA_gs (by omega)) v_rA_all
theorem f_set {f g t : Int32} : z_F σ x (b_set σ x f g t) (fun E => E = b_IO ∨ E = b_IA) := by
  unfold b_set
  by_cases c1 : f < 0
  · rw [if_pos c1]; exact z_Fi (by simp) v_rA.refl
  rw [if_neg c1]
  by_cases c2 : nI 4 ≤ f
  · rw [if_pos c2]; exact z_Fi (by simp) v_rA.refl
  rw [if_neg c2]
  have hf : f.toNatClampNeg < 4 := by
    obtain ⟨j, hj, rfl⟩ := nI_of (show ¬ f < nI 0 from c1)
    rw [show (nI j).toNatClampNeg = j from nI_clamp hj]
    exact Nat.lt_of_not_le fun z => c2 ((nI_leI (by omega) hj).mpr z)
  repeat' split
  all_goals first | exact z_Fi (by simp) v_rA.refl | exact z_Fl rfl (v_rA_gs (by omega)) v_rA_all
theorem f_plcd {a : Int32} : z_F σ x (b_plcd σ x a) (fun E => E = b_IO) := by
  unfold b_plcd
  repeat' split
  all_goals first | exact z_Fi rfl v_rA.refl | exact z_Fl rfl v_rA.refl v_rA.refl
theorem f_plAt {a p : Int32} : z_F σ x (b_plAt σ x a p) (fun E => E = b_IO) := by
  unfold b_plAt
  repeat' split
  all_goals first | exact z_Fi rfl v_rA.refl | exact z_Fl rfl v_rA.refl v_rA.refl
theorem f_setups {a : Int32} : z_F σ x (b_sum1 σ x a) (fun E => E = b_IO) := by
  unfold b_sum1
  repeat' split
  all_goals first | exact z_Fi rfl v_rA.refl | exact z_Fl rfl v_rA.refl v_rA.refl
theorem f_loads {a : Int32} : z_F σ x (b_load1 σ x a) (fun E => E = b_IO) := by
  unfold b_load1
  repeat' split
  all_goals first | exact z_Fi rfl v_rA.refl | exact z_Fl rfl v_rA.refl v_rA.refl
theorem v_poE {a b : Int32} {E : String} (h : b_po σ a b = .inr E) : E = b_IO ∨ E = b_IS := by
  unfold b_po at h
  repeat' split at h
  all_goals first | (cases h; simp; done) | cases h
theorem v_pjE {a : Int32} {E : String} (h : b_pj σ a = .inr E) : E = b_IO ∨ E = b_IS := by
  unfold b_pj at h
  repeat' split at h
  all_goals first | (cases h; simp; done) | cases h
theorem v_wjE {a : Int32} {E : String} (h : b_wj σ a = .inr E) : E = b_IO ∨ E = b_IS := by
  unfold b_wj at h
  repeat' split at h
  all_goals first | (cases h; simp; done) | cases h
theorem f_st {a b : Int32} : z_F σ x (b_st σ x a b) (fun E => E = b_IO ∨ E = b_IS) := by
  unfold b_st
  cases e : b_po σ a b with
  | inr E => exact z_Fi (v_poE e) v_rA.refl
  | inl i => exact z_Fl rfl v_rA.refl v_rA.refl
theorem f_late {a : Int32} : z_F σ x (b_late σ x a) (fun E => E = b_IO ∨ E = b_IS) := by
  unfold b_late
  cases e : b_pj σ a with
  | inr E => exact z_Fi (v_pjE e) v_rA.refl
  | inl i => exact z_Fl rfl v_rA.refl v_rA.refl
theorem f_crit : z_F σ x (b_crit σ x) (fun _ => False) := z_Fl rfl v_rA.refl v_pathX.2
theorem f_crAt {p : Int32} : z_F σ x (b_crAt σ x p) (fun E => E = b_IO) := by
  unfold b_crAt
  repeat' split
  all_goals first | exact z_Fi rfl v_pathX.2 | exact z_Fl rfl v_rA.refl v_pathX.2
theorem f_sbr (h : v_Inv σ x) {a b : Int32} : z_F σ x (b_sbr σ x a b) (fun E => E = b_IO ∨ E = b_IS) := by
  unfold b_sbr
  cases e : b_po σ a b with
  | inr E => exact z_Fi (v_poE e) v_rA.refl
  | inl i => exact z_Fl rfl v_rA.refl (fun c i k hc => (v_later h).2.2 c i k (by omega))
theorem f_slk (h : v_Inv σ x) {a b : Int32} : z_F σ x (b_slk σ x a b) (fun E => E = b_IO ∨ E = b_IS) := by
  obtain ⟨P, p1, p2, p3, p4, p5, p6⟩ := v_lat_s h
  unfold b_slk
  cases e : b_po σ a b with
  | inr E => exact z_Fi (v_poE e) v_rA.refl
  | inl i => exact z_Fl rfl v_rA.refl (fun c i k hc => p6 c i k (by omega))
theorem v_place_r : ∀ (os : List Nat) (y : bt_X), (b_place σ y os).1 = y.1 := by
  intro os
  induction os with
  | nil => intro y; rfl
  | cons o os ih => intro y; exact (ih _).trans (by rw [v_ins_nr, v_nr_1])
theorem f_plc {a : Int32} : z_F σ x (b_plcF σ x a) (fun E => E = b_IO ∨ E = b_IS) := by
  unfold b_plcF
  cases e : b_wj σ a with
  | inr E => exact z_Fi (v_wjE e) v_rA.refl
  | inl j => exact z_Fl rfl (v_rA_gs (by omega)) (fun c i k hc => by rw [v_all_n (by omega), v_place_r])
theorem v_try_r6 {i m : Nat} : ∀ (n q : Nat) (y : bt_X) (b : Nat) (s t : Int32) {i' k : Nat}, (b_try σ i m n q y b s t).2.1 6 i' k = y.1 6 i' k := by
  intro n
  induction n with
  | zero => intro q y b s t i' k; rfl
  | succ n ih =>
    intro q y b s t i' k
    have e : ∀ q, (b_out (b_all σ (b_ins y m q i)).2 m q).1 6 i' k = y.1 6 i' k := fun q => by
      rw [v_out_nr, v_nr_1, v_all_n (by omega), v_ins_nr, v_nr_1]
    unfold b_try
    simp only []
    repeat' split
    all_goals rw [ih, e]
theorem v_rush_r6 : ∀ (os : List Nat) (y : bt_X) {i' k : Nat}, (b_rush σ y os).1 6 i' k = y.1 6 i' k := by
  intro os
  induction os with
  | nil => intro y i' k; rfl
  | cons o os ih =>
    intro y i' k
    refine (ih _).trans ?_
    unfold b_best
    rw [v_ins_nr, v_nr_1]
    exact v_try_r6 _ _ _ _ _ _
theorem f_rsh {a : Int32} : z_F σ x (b_rshF σ x a) (fun E => E = b_IO ∨ E = b_IS) := by
  unfold b_rshF
  cases e : b_wj σ a with
  | inr E => exact z_Fi (v_wjE e) v_rA.refl
  | inl j => exact z_Fl rfl (v_rA_gs (by omega)) (fun c i k hc => by
      rw [v_all_n (by omega)]
      rcases hc with rfl | ⟨rfl, -⟩
      · exact v_rush_r6 _ _
      · exact v_rush_r _ _)
theorem v_rem_r {j : Nat} : ∀ (L : List Nat) (y : bt_X), (b_rem j y L).1 = y.1 := by
  intro L
  induction L with
  | nil => intro y; rfl
  | cons m L ih => intro y; exact (ih _).trans (by rw [v_outAll_nr, v_nr_1])
theorem f_rem {a : Int32} : z_F σ x (b_remF σ x a) (fun E => E = b_IO ∨ E = b_IS) := by
  unfold b_remF
  cases e : b_pj σ a with
  | inr E => exact z_Fi (v_pjE e) v_rA.refl
  | inl j => exact z_Fl rfl (v_rA_gs (by omega)) (fun c i k hc => by rw [v_all_n (by omega), v_rem_r])
end VLW

