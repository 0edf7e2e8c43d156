/-! ===== the law's calls that change the shop ===== -/
section UM
variable {α α' : bt_A} {σ σ' σ1 σ2 x x' x1 x2 w : bt_X} {G : bp_X}
/-- what the law's arrays say of the shop -/
def u_L (σ x : bt_X) : Prop :=
  (∀ j, j < 8 → x.1 8 35 j = nI (if j < b_nj σ then b_np σ j else 0)) ∧
  (∀ j, j < 8 → x.1 8 36 j = if j < b_nj σ then σ.1 0 j 3 else nI 0) ∧
  (∀ j, j < b_nj σ → x.1 8 37 j = σ.1 0 j 1) ∧
  (∀ i, v_op σ i → x.1 8 38 i = σ.1 2 i 3) ∧
  (∀ m, m < b_nm σ → ∃ c, σ.1 1 m 1 = nI c ∧ 2 ≤ c ∧ c ≤ 8) ∧
  (∀ i, v_op σ i → v_pc (nN (σ.1 2 i 5)) ≤ 2)
theorem u_L.u (h : u_L σ x) (r : u_R x x') : u_L σ x' := by
  obtain ⟨h1, h2, h3, h4, h5, h6⟩ := h
  refine ⟨fun j hj => ?_, fun j hj => ?_, fun j hj => ?_, fun i hi => ?_, h5, h6⟩
  · rw [r.arr (by omega)]; exact h1 j hj
  · rw [r.arr (by omega)]; exact h2 j hj
  · rw [r.arr (by omega)]; exact h3 j hj
  · rw [r.arr (by omega)]; exact h4 i hi
/-- one job is told to be placed or not, the shop is the same else -/
def u_M (σ x σ2 x2 : bt_X) (j : Nat) (v : Int32) : Prop := σ2.2 = σ.2 ∧ (∀ c i k, c < 6 → ¬ (c = 0 ∧ i = j ∧ k = 3) → σ2.1 c i k = σ.1 c i k) ∧ σ2.1 0 j 3 = v ∧ ∀ i k, 35 ≤ i → x2.1 8 i k = x.1 8 i k
theorem u_M.L {j : Nat} {v : Int32} (h : u_L σ x) (g : u_M σ x σ2 x2 j v) (hj : j < b_nj σ) : u_L σ2 (bt_gs x2 8 36 j v) := by
  obtain ⟨h1, h2, h3, h4, h5, h6⟩ := h
  obtain ⟨g1, g2, g3, g4⟩ := g
  have enm : b_nm σ2 = b_nm σ := by unfold b_nm; rw [g1]
  have enj : b_nj σ2 = b_nj σ := by unfold b_nj; rw [g1]
  have enp : ∀ j, b_np σ2 j = b_np σ j := fun j => by unfold b_np; rw [g1]
  have eop : ∀ i, v_op σ2 i ↔ v_op σ i := fun i => by unfold v_op; rw [enj, enp]
  refine ⟨fun j' hj' => ?_, fun j' hj' => ?_, fun j' hj' => ?_, fun i hi => ?_, fun m hm => ?_, fun i hi => ?_⟩
  · rw [b_gs_ne (by omega), g4 _ _ (by omega), enj, enp]; exact h1 j' hj'
  · rw [enj]
    by_cases e : j' = j
    · subst e; rw [b_gs_at, if_pos hj, g3]
    · rw [b_gs_ne (by omega), g4 _ _ (by omega), g2 0 j' 3 (by omega) (by omega)]; exact h2 j' hj'
  · rw [b_gs_ne (by omega), g4 _ _ (by omega), g2 0 j' 1 (by omega) (by omega)]; exact h3 j' (by rw [← enj]; exact hj')
  · rw [b_gs_ne (by omega), g4 _ _ (by omega), g2 2 i 3 (by omega) (by omega)]; exact h4 i ((eop i).mp hi)
  · rw [g2 1 m 1 (by omega) (by omega)]; exact h5 m (by rw [← enm]; exact hm)
  · rw [g2 2 i 5 (by omega) (by omega)]; exact h6 i ((eop i).mp hi)
/-- numbers of machines and set-ups alone -/
theorem u_L.k (h : u_L σ x) (g1 : σ2.2 = σ.2) (g2 : ∀ c i k, c = 0 ∨ c = 2 → σ2.1 c i k = σ.1 c i k) (g3 : ∀ m, m < b_nm σ → ∃ c, σ2.1 1 m 1 = nI c ∧ 2 ≤ c ∧ c ≤ 8) (g4 : ∀ i k, 35 ≤ i → x2.1 8 i k = x.1 8 i k) : u_L σ2 x2 := by
  obtain ⟨h1, h2, h3, h4, h5, h6⟩ := h
  have enm : b_nm σ2 = b_nm σ := by unfold b_nm; rw [g1]
  have enj : b_nj σ2 = b_nj σ := by unfold b_nj; rw [g1]
  have enp : ∀ j, b_np σ2 j = b_np σ j := fun j => by unfold b_np; rw [g1]
  have eop : ∀ i, v_op σ2 i ↔ v_op σ i := fun i => by unfold v_op; rw [enj, enp]
  refine ⟨fun j' hj' => ?_, fun j' hj' => ?_, fun j' hj' => ?_, fun i hi => ?_, fun m hm => ?_, fun i hi => ?_⟩
  · rw [g4 _ _ (by omega), enj, enp]; exact h1 j' hj'
  · rw [enj, g4 _ _ (by omega), g2 0 j' 3 (by omega)]; exact h2 j' hj'
  · rw [g4 _ _ (by omega), g2 0 j' 1 (by omega)]; exact h3 j' (by rw [← enj]; exact hj')
  · rw [g4 _ _ (by omega), g2 2 i 3 (by omega)]; exact h4 i ((eop i).mp hi)
  · exact g3 m (by rw [← enm]; exact hm)
  · rw [g2 2 i 5 (by omega)]; exact h6 i ((eop i).mp hi)
theorem v_hcnt (h : v_Inv σ x) {a : Int32} : ∀ j, b_wj σ a = .inl j → b_cnt x (σ.2.2 0) + b_np σ j ≤ 32 := by
  intro j hj
  rcases v_wjn (a := a) h with ⟨j', e1, e2, e3, hj', hp, -⟩ | ⟨e1, -⟩ | ⟨e1, -⟩
  · rw [e1] at hj; cases hj; exact v_cap h hj' hp
  · rw [e1] at hj; cases hj
  · rw [e1] at hj; cases hj
theorem u_wj (h : v_Inv σ x) {j : Nat} (hj : j < b_nj σ) (hp : σ.1 0 j 3 = nI 0) (hnp : b_np σ j ≠ 0) : b_wj σ (nI j) = .inl j := by
  have := u_nj8 h
  unfold b_wj
  rw [u_ix hj (by omega)]
  simp only []
  rw [if_pos (show σ.1 0 j 3 = 0 from hp), if_neg hnp]
theorem u_pj (h : v_Inv σ x) {j : Nat} (hj : j < b_nj σ) (hp : σ.1 0 j 3 = nI 1) : b_pj σ (nI j) = .inl j := by
  have := u_nj8 h
  unfold b_pj
  rw [u_ix hj (by omega)]
  simp only []
  rw [if_neg (show ¬ σ.1 0 j 3 = 0 by rw [hp]; decide)]
/-- what stands and holds behind a call that moves a job -/
def u_mv (G : bp_X) (M : bp_M) (D : Nat) (α : bt_A) (σ x : bt_X) (j : Nat) (v : Int32) : Prop :=
  ∃ (u : Int32) (σ1 x1 σ2 x2 : bt_X), bq_S G M D [.ref (bt_ad α 5 0), .int (nI j)] (bt α σ x) (bq_ret (some (.int u)) (bt α σ1 x1)) ∧ u_go G α σ1 x1 σ2 x2 ∧ z_V α σ2 ∧ v_Inv σ2 x2 ∧ x2.1 4 0 5 = u ∧ u_M σ x σ2 x2 j v
theorem u_mv_of {M : bp_M} {D : Nat} {F : b_R} {R : m_Rt} {P : String → Prop} {j : Nat} {v : Int32} (hV : z_V α σ) (hj : j < b_nj σ) (hZ : z_F σ x F P) (e1 : F.1 = .inl (some (.int (F.2.2.1 4 0 5)))) (e2 : F.2.1 = bt_gs σ 0 j 3 v)
    (hI : v_Inv R.2.1 R.2.2) (hF : u_Fr F.2.1 F.2.2 R) (K : bq_S G M D [.ref (bt_ad α 5 0), .int (nI j)] (bt α σ x) (b_end α F)) : u_mv G M D α σ x j v := by
  obtain ⟨g1, g2, g3⟩ := u_mut (G := G) hV (by rw [hZ.1]) hI hF
  rw [u_ret e1] at K
  refine ⟨_, _, _, _, _, K, g3, g1, g2, u_pX_u (by omega), hZ.1, fun c i k hc hn => ?_, ?_, fun i k hi => ?_⟩
  · rw [u_pS_u (by omega), e2, b_gs_ne hn]
  · rw [u_pS_u (by omega), e2, b_gs_at]
  · rw [u_pX_u (by omega), hZ.2.2.1 8 i k (by omega)]
theorem t_place (hV : z_V α σ) (h : v_Inv σ x) {j : Nat} (hj : j < b_nj σ) (hp : σ.1 0 j 3 = nI 0) (hnp : b_np σ j ≠ 0) (hroom : bt_us α + 110 ≤ bp_max) : u_mv G mX5_place 10 α σ x j (nI 1) := by
  have S := s_place (w := (b_plcF σ x (nI j)).2.2) (a := nI j) h v_cX.refl v_rA.refl
  refine u_mv_of hV hj f_plc ?_ ?_ S.1 u_place (k_place (hV.ok h) (by omega) (v_hcnt h))
  · unfold b_plcF; rw [u_wj h hj hp hnp]
  · unfold b_plcF; rw [u_wj h hj hp hnp]
theorem t_rush (hV : z_V α σ) (h : v_Inv σ x) {j : Nat} (hj : j < b_nj σ) (hp : σ.1 0 j 3 = nI 0) (hnp : b_np σ j ≠ 0) (hroom : bt_us α + 110 ≤ bp_max) : u_mv G mX5_rush 11 α σ x j (nI 1) := by
  have S := (s_rush (w := (b_rshF σ x (nI j)).2.2) (a := nI j) h v_cX.refl v_rA.refl).1
  refine u_mv_of hV hj f_rsh ?_ ?_ S.1 u_rush (k_rush (hV.ok h) (by omega) (v_hcnt h))
  · unfold b_rshF; rw [u_wj h hj hp hnp]
  · unfold b_rshF; rw [u_wj h hj hp hnp]
theorem t_rem (hV : z_V α σ) (h : v_Inv σ x) {j : Nat} (hj : j < b_nj σ) (hp : σ.1 0 j 3 = nI 1) (hroom : bt_us α + 110 ≤ bp_max) : u_mv G mX5_remove 10 α σ x j (nI 0) := by
  have S := (s_rem (w := (b_remF σ x (nI j)).2.2) (a := nI j) h v_cX.refl v_rA.refl).1
  refine u_mv_of hV hj f_rem ?_ ?_ S.1 u_remv (k_rem (hV.ok h) (by omega))
  · unfold b_remF; rw [u_pj h hj hp]
  · unfold b_remF; rw [u_pj h hj hp]
/-- what stands and holds behind a call that tells the shop something -/
def u_tl (G : bp_X) (M : bp_M) (D : Nat) (as : List Value) (α : bt_A) (σ x : bt_X) (Q : Int32 → bt_X → Prop) : Prop :=
  ∃ (u : Int32) (σ1 x1 σ2 x2 : bt_X), bq_S G M D (.ref (bt_ad α 5 0) :: as) (bt α σ x) (bq_ret (some (.int u)) (bt α σ1 x1)) ∧ u_go G α σ1 x1 σ2 x2 ∧ z_V α σ2 ∧ v_Inv σ2 x2 ∧ u_L σ2 x2 ∧ σ2.2 = σ.2 ∧ Q u x2
theorem u_tl_of {M : bp_M} {D : Nat} {as : List Value} {F : b_R} {R : m_Rt} {P : String → Prop} {u : Int32} {Q : Int32 → bt_X → Prop} (hV : z_V α σ) (hL : u_L σ x) (hZ : z_F σ x F P) (e1 : F.1 = .inl (some (.int u)))
    (e2 : ∀ c i k, c = 0 ∨ c = 2 → F.2.1.1 c i k = σ.1 c i k) (e3 : ∀ m, m < b_nm σ → ∃ c, F.2.1.1 1 m 1 = nI c ∧ 2 ≤ c ∧ c ≤ 8)
    (hI : v_Inv R.2.1 R.2.2) (hF : u_Fr F.2.1 F.2.2 R) (K : bq_S G M D (.ref (bt_ad α 5 0) :: as) (bt α σ x) (b_end α F)) (hQ : Q u (u_pX F.2.2 R.2.2)) : u_tl G M D as α σ x Q := by
  obtain ⟨g1, g2, g3⟩ := u_mut (G := G) hV (by rw [hZ.1]) hI hF
  rw [u_ret e1] at K
  refine ⟨_, _, _, _, _, K, g3, g1, g2, hL.k hZ.1 (fun c i k hc => ?_) (fun m hm => ?_) (fun i k hi => ?_), hZ.1, hQ⟩
  · rw [u_pS_u (by omega)]; exact e2 c i k hc
  · rw [u_pS_u (by omega)]; exact e3 m hm
  · rw [u_pX_u (by omega), hZ.2.2.1 8 i k (by omega)]
theorem t_brk (hV : z_V α σ) (h : v_Inv σ x) (hL : u_L σ x) {m f t : Nat} (hm : m < b_nm σ) (hf : f < 10000) (hft : f < t) (ht : t ≤ 10000) (hroom : bt_us α + 110 ≤ bp_max) :
    u_tl G mX5_breakdown 10 [.int (nI m), .int (nI f), .int (nI t)] α σ x (fun u y => y.1 4 0 5 = u) := by
  have hnm := u_nm4 h
  have S := s_brk (w := (b_brk σ x (nI m) (nI f) (nI t)).2.2) (a := nI m) (f := nI f) (t := nI t) h v_cX.refl v_rA.refl
  have eF : b_brk σ x (nI m) (nI f) (nI t) = (.inl (some (.int ((b_all (bt_gs (bt_gs (bt_gs σ 1 m 3 (nI 1)) 1 m 4 (nI f)) 1 m 5 (nI t)) x).2.1 4 0 5))), bt_gs (bt_gs (bt_gs σ 1 m 3 (nI 1)) 1 m 4 (nI f)) 1 m 5 (nI t), (b_all (bt_gs (bt_gs (bt_gs σ 1 m 3 (nI 1)) 1 m 4 (nI f)) 1 m 5 (nI t)) x).2) := by
    unfold b_brk
    rw [u_ix hm (by omega)]
    exact (if_neg (nI_pos (by omega))).trans ((if_pos (nI_lt hf (by omega))).trans ((if_neg (nI_ge hft (by omega))).trans (if_pos (nI_le ht (by omega)))))
  refine u_tl_of (u := (b_brk σ x (nI m) (nI f) (nI t)).2.2.1 4 0 5) hV hL f_brk (by rw [eF]) (fun c i k hc => ?_) (fun m' hm' => ?_) S.1 u_brk (k_brk (hV.ok h) (by omega)) (u_pX_u (by omega))
  · rw [eF, b_gs_ne (by omega), b_gs_ne (by omega), b_gs_ne (by omega)]
  · rw [eF, b_gs_ne (by omega), b_gs_ne (by omega), b_gs_ne (by omega)]
    exact hL.2.2.2.2.1 m' hm'
theorem t_rep (hV : z_V α σ) (h : v_Inv σ x) (hL : u_L σ x) {m : Nat} (hm : m < b_nm σ) (hroom : bt_us α + 110 ≤ bp_max) : u_tl G mX5_repair 10 [.int (nI m)] α σ x (fun _ _ => True) := by
  have hnm := u_nm4 h
  have S := (s_rep (w := (b_rep σ x (nI m)).2.2) (a := nI m) h v_cX.refl v_rA.refl).1
  have eF : b_rep σ x (nI m) = (.inl (some (.int (σ.1 1 m 3))), bt_gs σ 1 m 3 (nI 0), (b_all (bt_gs σ 1 m 3 (nI 0)) x).2) := by
    unfold b_rep
    rw [u_ix hm (by omega)]
  refine u_tl_of (u := σ.1 1 m 3) hV hL f_rep (by rw [eF]) (fun c i k hc => ?_) (fun m' hm' => ?_) S.1 u_rep (k_rep (hV.ok h) (by omega)) trivial
  · rw [eF, b_gs_ne (by omega)]
  · rw [eF, b_gs_ne (by omega)]
    exact hL.2.2.2.2.1 m' hm'
theorem t_setS (hV : z_V α σ) (h : v_Inv σ x) (hL : u_L σ x) {f g t : Nat} (hf : f < 4) (hg : g < 4) (ht : t ≤ 60) (hroom : bt_us α + 110 ≤ bp_max) : u_tl G mX5_setSetup 10 [.int (nI f), .int (nI g), .int (nI t)] α σ x (fun _ _ => True) := by
  have S := s_setp (w := (b_set σ x (nI f) (nI g) (nI t)).2.2) (f := nI f) (g := nI g) (t := nI t) h v_cX.refl v_rA.refl
  have eF : b_set σ x (nI f) (nI g) (nI t) = (.inl (some (.int (σ.1 8 (1 + f) g))), bt_gs σ 8 (1 + f) g (nI t), (b_all (bt_gs σ 8 (1 + f) g (nI t)) x).2) := by
    unfold b_set
    rw [show (nI f).toNatClampNeg = f from nI_clamp (by omega), show (nI g).toNatClampNeg = g from nI_clamp (by omega)]
    exact (if_neg (nI_pos (by omega))).trans ((if_neg (nI_ge hf (by omega))).trans ((if_neg (nI_pos (by omega))).trans ((if_pos (nI_lt hg (by omega))).trans ((if_neg (nI_pos (by omega))).trans (if_pos (nI_le ht (by omega)))))))
  refine u_tl_of (u := σ.1 8 (1 + f) g) hV hL f_set (by rw [eF]) (fun c i k hc => ?_) (fun m' hm' => ?_) S.1 u_set (k_set (hV.ok h) (by omega)) trivial
  · rw [eF, b_gs_ne (by omega)]
  · rw [eF, b_gs_ne (by omega)]
    exact hL.2.2.2.2.1 m' hm'
theorem t_setMag (hV : z_V α σ) (h : v_Inv σ x) (hL : u_L σ x) {m c : Nat} (hm : m < b_nm σ) (hc1 : 2 ≤ c) (hc2 : c ≤ 8) (hroom : bt_us α + 110 ≤ bp_max) :
    u_tl G mX5_setMagazine 7 [.int (nI m), .int (nI c)] α σ x (fun u y => (∃ d, u = nI d ∧ 1 ≤ d ∧ d ≤ 8) ∧ ∀ n, y.2.2 n = x.2.2 n) := by
  have hnm := u_nm4 h
  obtain ⟨cap, t, c1, c2, c3, t1, t2, t3, t4⟩ := h.1.1.2.2.2.2.2 m hm
  have ht : t ≤ 2 := by
    rcases t4 with t4 | ⟨i, i1, -, i3⟩
    · omega
    · rw [← i3]; exact hL.2.2.2.2.2 i i1
  have S := s_setMag (w := (b_setMag σ x (nI m) (nI c)).2.2) (a := nI m) (c := nI c) h v_cX.refl v_rA.refl
  have eF : b_setMag σ x (nI m) (nI c) = (.inl (some (.int (σ.1 1 m 1))), bt_gs σ 1 m 1 (nI c), x) := by
    unfold b_setMag
    rw [u_ix hm (by omega)]
    exact (if_neg (nI_nlt (by omega) (by omega))).trans ((if_pos (nI_le hc2 (by omega))).trans (if_pos (by rw [t1]; exact nI_le (by omega) (by omega))))
  refine u_tl_of (u := σ.1 1 m 1) hV hL f_setMag (by rw [eF]) (fun c i k hc => ?_) (fun m' hm' => ?_) S.1 u_setMag (k_setMag (hV.ok h) (by omega)) ⟨⟨cap, c1, c2, c3⟩, fun n => by rw [eF]; rfl⟩
  · rw [eF, b_gs_ne (by omega)]
  · rw [eF]
    by_cases e : m' = m
    · subst e; rw [b_gs_at]; exact ⟨c, rfl, hc1, hc2⟩
    · rw [b_gs_ne (by omega)]
      exact hL.2.2.2.2.1 m' hm'
end UM
