/-! ===== what the law asks: the class's answers ===== -/
section UQ
variable {α α' : bt_A} {σ σ' σ1 σ2 x x' x1 x2 w : bt_X} {G : bp_X}
theorem u_ret {F : b_R} {u : Int32} (e : F.1 = .inl (some (.int u))) : b_end α F = bq_ret (some (.int u)) (bt α F.2.1 F.2.2) := by
  obtain ⟨o, σ1, x1⟩ := F
  cases e
  rfl
/-- only what is found on the way is other, and the law's seen -/
def u_R (x x' : bt_X) : Prop := x'.2.1 = x.2.1 ∧ (∀ n, n ≠ 3 → x'.2.2 n = x.2.2 n) ∧ ∀ c i k, ¬ (c = 2 ∧ (k = 12 ∨ k = 13)) → ¬ (c = 8 ∧ i = 39) → x'.1 c i k = x.1 c i k
theorem u_R.rf : u_R x x := ⟨rfl, fun _ _ => rfl, fun _ _ _ _ _ => rfl⟩
theorem u_R.trans (h : u_R x x') (g : u_R x' x1) : u_R x x1 := ⟨g.1.trans h.1, fun n hn => (g.2.1 n hn).trans (h.2.1 n hn), fun c i k h1 h2 => (g.2.2 c i k h1 h2).trans (h.2.2 c i k h1 h2)⟩
theorem u_R.cX (h : u_R x x') : v_cX x x' := ⟨h.1, h.2.1, fun c i k hc hk => h.2.2 c i k hk (by omega)⟩
theorem v_Inv.u (h : v_Inv σ x) (r : u_R x x') : v_Inv σ x' := h.mv r.cX (fun i k hi => r.2.2 8 i k (by omega) (by omega))
theorem u_R.s (r : u_R x x') {i : Nat} : v_s x' i = v_s x i := by unfold v_s; rw [r.2.2 2 i 10 (by omega) (by omega)]
theorem u_R.ord (r : u_R x x') : x'.2.2 2 = x.2.2 2 := r.2.1 2 (by omega)
theorem u_R.row (r : u_R x x') {m : Nat} : x'.2.2 (4 + m) = x.2.2 (4 + m) := r.2.1 _ (by omega)
theorem u_R.arr (r : u_R x x') {i k : Nat} (hi : i ≠ 39) : x'.1 8 i k = x.1 8 i k := r.2.2 8 i k (by omega) (by omega)
theorem v_Inv.law (h : v_Inv σ x) {i k : Nat} {v : Int32} (hi : 35 ≤ i) : v_Inv σ (bt_gs x 8 i k v) := h.mv (v_cX_gs (by omega)) (fun i' k' h' => b_gs_ne (by omega))
theorem u_ix {n j : Nat} (hj : j < n) (hn : n < 2 ^ 31) : b_ix n (nI j) = some j := by
  unfold b_ix
  rw [if_neg (nI_pos (by omega)), if_pos (nI_lt hj hn), nI_clamp (by omega)]
theorem u_nj8 (h : v_Inv σ x) : b_nj σ ≤ 8 := h.1.1.1.2.2.2.1
theorem u_nm4 (h : v_Inv σ x) : b_nm σ ≤ 4 := h.1.1.1.2.1
theorem u_np4 (h : v_Inv σ x) {j : Nat} (hj : j < b_nj σ) : b_np σ j ≤ 4 := (h.1.1.1.2.2.2.2 j hj).2
theorem u_po (h : v_Inv σ x) {j k : Nat} (hj : j < b_nj σ) (hk : k < b_np σ j) (hp : σ.1 0 j 3 = nI 1) : b_po σ (nI j) (nI k) = .inl (4 * j + k) := by
  have := u_nj8 h
  have := u_np4 h hj
  unfold b_po
  rw [u_ix hj (by omega)]
  simp only []
  rw [u_ix hk (by omega)]
  simp only []
  rw [if_neg (by rw [hp]; decide)]
/-- where an operation finishes -/
def u_F (σ x : bt_X) (i : Nat) : Nat := v_s x i + v_ln σ i
theorem u_F_b (h : v_Inv σ x) {i : Nat} (hi : i ∈ x.2.2 2) : v_s x i < u_F σ x i ∧ u_F σ x i < 20000 ∧ x.1 2 i 11 = nI (u_F σ x i) ∧ x.1 2 i 10 = nI (v_s x i) ∧ σ.1 2 i 3 = nI (v_ln σ i) ∧ v_op σ i := by
  obtain ⟨q1, q2, q3, q4⟩ := (v_Sx h).2 i hi
  have := v_lnE h.1.1.2.1 q1
  unfold u_F
  exact ⟨by omega, by omega, q3, q2, this.1, q1⟩
theorem t_st (hV : z_V α σ) (h : v_Inv σ x) {j k : Nat} (hj : j < b_nj σ) (hk : k < b_np σ j) (hp : σ.1 0 j 3 = nI 1) (hroom : bt_us α + 110 ≤ bp_max) :
    bq_S G mX5_startOf 8 [.ref (bt_ad α 5 0), .int (nI j), .int (nI k)] (bt α σ x) (bq_ret (some (.int (nI (v_s x (4 * j + k))))) (bt α σ x)) := by
  have e : b_st σ x (nI j) (nI k) = (.inl (some (.int (nI (v_s x (4 * j + k))))), σ, x) := by
    unfold b_st
    rw [u_po h hj hk hp]
    simp only []
    rw [(u_F_b h (v_job_pl h hj hp hk).2).2.2.2.1]
  have K := k_st (G := G) (a := nI j) (b := nI k) (hV.ok h) (by omega)
  rw [e] at K
  exact K
theorem u_later (h : v_Inv σ x) : u_R x (b_later σ x) := by
  obtain ⟨g1, g2⟩ := (v_later h).2
  exact ⟨by rw [g1], fun _ _ => by rw [g1], fun c i k h1 _ => g2 c i k (by omega)⟩
theorem t_sbr (hV : z_V α σ) (h : v_Inv σ x) {j k : Nat} (hj : j < b_nj σ) (hk : k < b_np σ j) (hp : σ.1 0 j 3 = nI 1) (hroom : bt_us α + 110 ≤ bp_max) :
    bq_S G mX5_startByRounds 8 [.ref (bt_ad α 5 0), .int (nI j), .int (nI k)] (bt α σ x) (bq_ret (some (.int (nI (v_s x (4 * j + k))))) (bt α σ (b_later σ x))) := by
  have e : b_sbr σ x (nI j) (nI k) = (.inl (some (.int (nI (v_s x (4 * j + k))))), σ, b_later σ x) := by
    unfold b_sbr
    rw [u_po h hj hk hp]
    simp only []
    rw [(v_later h).1 _ (v_job_pl h hj hp hk).2, (u_F_b h (v_job_pl h hj hp hk).2).2.2.2.1]
  have K := k_sbr (G := G) (a := nI j) (b := nI k) (hV.ok h) (by omega)
  rw [e] at K
  exact K
theorem u_lat (h : v_Inv σ x) : u_R x (b_lat σ x) := by
  obtain ⟨P, -, -, -, -, g1, g2⟩ := v_lat_s h
  exact ⟨by rw [g1], fun _ _ => by rw [g1], fun c i k h1 _ => g2 c i k (by omega)⟩
theorem t_slk (hV : z_V α σ) (h : v_Inv σ x) {j k : Nat} (hj : j < b_nj σ) (hk : k < b_np σ j) (hp : σ.1 0 j 3 = nI 1) (hroom : bt_us α + 110 ≤ bp_max) :
    ∃ d, d < 1000000 ∧ bq_S G mX5_slack 8 [.ref (bt_ad α 5 0), .int (nI j), .int (nI k)] (bt α σ x) (bq_ret (some (.int (nI d))) (bt α σ (b_lat σ x))) := by
  obtain ⟨P, p1, p2, p3, p4, p5, p6⟩ := v_lat_s h
  have hi := (v_job_pl h hj hp hk).2
  obtain ⟨t1, t2, t3, t4⟩ := p4 _ hi
  refine ⟨v_tT σ x (4 * j + k) - v_s x (4 * j + k), by omega, ?_⟩
  have e : b_slk σ x (nI j) (nI k) = (.inl (some (.int (nI (v_tT σ x (4 * j + k) - v_s x (4 * j + k))))), σ, b_lat σ x) := by
    unfold b_slk
    rw [u_po h hj hk hp]
    simp only []
    rw [t1, p6 2 _ 10 (by omega), (u_F_b h hi).2.2.2.1, pk_sub t2]
  have K := k_slk (G := G) (a := nI j) (b := nI k) (hV.ok h) (by omega)
  rw [e] at K
  exact K
theorem t_late (hV : z_V α σ) (h : v_Inv σ x) {j d : Nat} (hj : j < b_nj σ) (hp : σ.1 0 j 3 = nI 1) (hd : σ.1 0 j 1 = nI d) (hd2 : d ≤ 10000) (hroom : bt_us α + 110 ≤ bp_max) :
    bq_S G mX5_lateness 8 [.ref (bt_ad α 5 0), .int (nI j)] (bt α σ x) (bq_ret (some (.int (nI (u_F σ x (4 * j + (b_np σ j - 1)) - d)))) (bt α σ x)) := by
  have hnj := u_nj8 h
  obtain ⟨hops, hp4⟩ := h.1.1.1.2.2.2.2 j hj
  obtain ⟨hp1, hnp⟩ := v_pjl h hj (show ¬ σ.1 0 j 3 = 0 by rw [hp]; decide)
  have hF : ∀ i ∈ σ.2.2 (8 + j), x.1 2 i 11 = nI (u_F σ x i) ∧ u_F σ x i < 1000000 := fun i hi => by
    rw [hops, List.mem_range'_1] at hi
    have := (v_job_pl h hj hp1 (k := i - 4 * j) (by omega)).2
    rw [show 4 * j + (i - 4 * j) = i by omega] at this
    have q := u_F_b h this
    exact ⟨q.2.2.1, by omega⟩
  obtain ⟨M, g1, g2, g3, g4⟩ := v_lateL (x := x) (F := u_F σ x) hd2 (σ.2.2 (8 + j)) 0 (by decide) hF
  have hmem : 4 * j + (b_np σ j - 1) ∈ σ.2.2 (8 + j) := by rw [hops, List.mem_range'_1]; omega
  have hle := g3 _ hmem
  have hge : M = 0 ∨ M + d ≤ u_F σ x (4 * j + (b_np σ j - 1)) := by
    rcases g4 with g4 | ⟨i, hi, g4⟩
    · exact Or.inl g4
    · rw [hops, List.mem_range'_1] at hi
      have := v_job_le h hj hp1 (b_np σ j - 1 - (i - 4 * j)) (i - 4 * j) (by omega)
      rw [show 4 * j + (i - 4 * j) = i by omega, show i - 4 * j + (b_np σ j - 1 - (i - 4 * j)) = b_np σ j - 1 by omega] at this
      exact Or.inr (by unfold u_F at g4 ⊢; omega)
  have e : b_late σ x (nI j) = (.inl (some (.int (nI (u_F σ x (4 * j + (b_np σ j - 1)) - d)))), σ, x) := by
    unfold b_late b_pj
    rw [u_ix hj (by omega)]
    simp only []
    rw [if_neg (show ¬ σ.1 0 j 3 = 0 by rw [hp]; decide)]
    simp only []
    rw [hd, g1, show M = u_F σ x (4 * j + (b_np σ j - 1)) - d by omega]
  have K := k_late (G := G) (a := nI j) (hV.ok h) (by omega)
  rw [e] at K
  exact K
/-- the span: the greatest finish -/
theorem u_P (h : v_Inv σ x) : ∃ P, P < 1000000 ∧ x.1 4 0 5 = nI P ∧ (∀ i ∈ x.2.2 2, u_F σ x i ≤ P) ∧ (P = 0 ∨ ∃ i ∈ x.2.2 2, P = u_F σ x i) := by
  obtain ⟨M, g1, g2, -, g4, g5⟩ := v_mx_s (x := x) (F := u_F σ x) (x.2.2 2) 0 (by decide) (fun i hi => by have q := u_F_b h hi; exact ⟨q.2.2.1, by omega⟩)
  exact ⟨M, g2, h.1.2.2.2.2.1.2.2.2.2.2.2.trans g1, g4, g5⟩
theorem t_span (hV : z_V α σ) (h : v_Inv σ x) (hroom : bt_us α + 110 ≤ bp_max) : bq_S G mX5_span 0 [.ref (bt_ad α 5 0)] (bt α σ x) (bq_ret (some (.int (x.1 4 0 5))) (bt α σ x)) := k_span (hV.ok h) (by omega)
theorem t_placed (hV : z_V α σ) (h : v_Inv σ x) {m : Nat} (hm : m < b_nm σ) (hroom : bt_us α + 110 ≤ bp_max) :
    bq_S G mX5_placed 7 [.ref (bt_ad α 5 0), .int (nI m)] (bt α σ x) (bq_ret (some (.int (nI (x.2.2 (4 + m)).length))) (bt α σ x)) := by
  have := u_nm4 h
  have e : b_plcd σ x (nI m) = (.inl (some (.int (nI (x.2.2 (4 + m)).length))), σ, x) := by
    unfold b_plcd
    rw [u_ix hm (by omega)]
  have K := k_plcd (G := G) (a := nI m) (hV.ok h) (by omega)
  rw [e] at K
  exact K
theorem u_len (h : v_Inv σ x) {m : Nat} (hm : m < b_nm σ) : (x.2.2 (4 + m)).length ≤ 32 := v_len h.1.1.1 h.1.2.1 hm
theorem t_plAt (hV : z_V α σ) (h : v_Inv σ x) {m k i : Nat} (hm : m < b_nm σ) (hi : (x.2.2 (4 + m))[k]? = some i) (hroom : bt_us α + 110 ≤ bp_max) :
    bq_S G mX5_placedAt 7 [.ref (bt_ad α 5 0), .int (nI m), .int (nI k)] (bt α σ x) (bq_ret (some (.int (nI (10 * (i / 4) + i % 4)))) (bt α σ x)) := by
  have := u_nm4 h
  have hl := u_len h hm
  have hk := v_lt hi
  have hop := ((h.1.2.1.1 m hm).2 _ (List.mem_of_getElem? hi)).1
  have e : b_plAt σ x (nI m) (nI k) = (.inl (some (.int (nI (10 * (i / 4) + i % 4)))), σ, x) := by
    unfold b_plAt
    rw [u_ix hm (by omega)]
    simp only []
    rw [if_neg (nI_pos (by omega)), if_pos (nI_lt hk (by omega)), nI_clamp (by omega), List.getD_eq_getElem?_getD, hi]
    show (Sum.inl (some (Value.int (b_code σ i))), σ, x) = _
    rw [v_code h.1.1.1 h.1.1.2.1 h.1.1.2.2.2.2.1 hop]
    rfl
  have K := k_plAt (G := G) (a := nI m) (p := nI k) (hV.ok h) (by omega)
  rw [e] at K
  exact K
theorem u_sum (h : v_Inv σ x) {m : Nat} (hm : m < b_nm σ) : ∀ (os : List Nat) (s : Nat), (∀ i ∈ os, i ∈ x.2.2 (4 + m)) → s + 60 * os.length < 1000000 → ∃ T, b_sum σ x os (nI s) = nI T ∧ T ≤ s + 60 * os.length := by
  intro os
  induction os with
  | nil => intro s _ _; exact ⟨s, rfl, by omega⟩
  | cons i os ih =>
    intro s hos hs
    have hi := hos i List.mem_cons_self
    have hop := ((h.1.2.1.1 m hm).2 i hi).1
    rw [List.length_cons] at hs
    obtain ⟨b1, b2⟩ := v_btE h.1.1.2.1 h.1.1.2.2.2.1 (a := x.2.1 2 i 8) hop (fun b hb => (h.1.2.2.1 i hop).1 b hb)
    obtain ⟨T, t1, t2⟩ := ih (s + v_bt σ (x.2.1 2 i 8) i) (fun j hj => hos j (List.mem_cons_of_mem _ hj)) (by omega)
    refine ⟨T, ?_, by rw [List.length_cons]; omega⟩
    show b_sum σ x os (nI s + b_bet σ (x.2.1 2 i 8) i) = _
    rw [b1, nI_add]
    exact t1
theorem t_setups (hV : z_V α σ) (h : v_Inv σ x) {m : Nat} (hm : m < b_nm σ) (hroom : bt_us α + 110 ≤ bp_max) :
    ∃ T, T < 1000000 ∧ ((x.2.2 (4 + m)).length = 0 → T = 0) ∧ bq_S G mX5_setups 7 [.ref (bt_ad α 5 0), .int (nI m)] (bt α σ x) (bq_ret (some (.int (nI T))) (bt α σ x)) := by
  have := u_nm4 h
  have hl := u_len h hm
  obtain ⟨T, t1, t2⟩ := u_sum h hm (x.2.2 (4 + m)) 0 (fun _ hi => hi) (by omega)
  refine ⟨T, by omega, fun e => by rw [e] at t2; omega, ?_⟩
  have e : b_sum1 σ x (nI m) = (.inl (some (.int (nI T))), σ, x) := by
    unfold b_sum1
    rw [u_ix hm (by omega)]
    simp only []
    rw [t1]
  have K := k_setups (G := G) (a := nI m) (hV.ok h) (by omega)
  rw [e] at K
  exact K
theorem u_ll (h : v_Inv σ x) {m : Nat} (hm : m < b_nm σ) : ∀ (os : List Nat) (j g P : Nat), (x.2.2 (4 + m)).drop j = os → g < 256 → ∃ L, b_ll σ x m j os (nI g) (nI P) = nI L ∧ L ≤ P + 8 * os.length := by
  obtain ⟨c, t, c1, c2, c3, t1, t2, t3, t4⟩ := h.1.1.2.2.2.2.2 m hm
  intro os
  induction os with
  | nil => intro j g P _ _; exact ⟨P, rfl, by omega⟩
  | cons o os ih =>
    intro j g P hdr hg
    have hmem : o ∈ x.2.2 (4 + m) := List.mem_of_mem_drop (by rw [hdr]; exact List.mem_cons_self)
    obtain ⟨hop, hbm⟩ := (h.1.2.1.1 m hm).2 o hmem
    obtain ⟨G', e1, e2, -⟩ := v_llS (σ := σ) (x := x) (m := m) (j := j) (o := o) (cap := c) (G := g) (P := P) (os := os) hdr (fun i hi => (h.1.1.2.1 i ((h.1.2.1.1 m hm).2 i hi).1).2.2.2.2.2.2) c1 c3 (Nat.le_trans (t3 o hop hbm) t2) hg
    have hdr2 : (x.2.2 (4 + m)).drop (j + 1) = os := by
      rw [← List.drop_drop, hdr]
      rfl
    obtain ⟨L, l1, l2⟩ := ih (j + 1) G' (P + v_pc (v_df (v_f σ o) g)) hdr2 e2
    have := v_pc8 (v_df (v_f σ o) g)
    exact ⟨L, e1.trans l1, by rw [List.length_cons]; omega⟩
theorem t_loads (hV : z_V α σ) (h : v_Inv σ x) {m : Nat} (hm : m < b_nm σ) (hroom : bt_us α + 110 ≤ bp_max) :
    ∃ T, T < 1000000 ∧ ((x.2.2 (4 + m)).length = 0 → T = 0) ∧ bq_S G mX5_loads 7 [.ref (bt_ad α 5 0), .int (nI m)] (bt α σ x) (bq_ret (some (.int (nI T))) (bt α σ x)) := by
  have := u_nm4 h
  have hl := u_len h hm
  obtain ⟨T, t1, t2⟩ := u_ll h hm (x.2.2 (4 + m)) 0 0 0 rfl (by decide)
  refine ⟨T, by omega, fun e => by rw [e] at t2; omega, ?_⟩
  have e : b_load1 σ x (nI m) = (.inl (some (.int (nI T))), σ, x) := by
    unfold b_load1 b_loads
    rw [u_ix hm (by omega)]
    simp only []
    rw [t1]
  have K := k_loads (G := G) (a := nI m) (hV.ok h) (by omega)
  rw [e] at K
  exact K
/-! the path -/
theorem u_pathR (h : v_Inv σ x) : u_R x (b_path σ x) := by
  have key := fun (n : Nat) (y : bt_X) (a : Option Nat) => b_path_fr (σ := σ) n y a
  obtain ⟨g1, g2, g3, -⟩ := key 32 (bt_lp x 3 []) (b_lastJ σ x (σ.2.2 1))
  refine ⟨?_, fun n hn => ?_, fun c i k _ _ => ?_⟩
  · exact g2
  · exact (g3 n hn).trans (bt_lp_ne hn)
  · show (b_pathL σ 32 (bt_lp x 3 []) (b_lastJ σ x (σ.2.2 1))).1 c i k = _
    rw [g1]
    rfl
def u_pth (σ x : bt_X) : List Nat := v_pl σ x 32 (b_lastJ σ x (σ.2.2 1))
theorem u_pth_e : (b_path σ x).2.2 3 = u_pth σ x := by
  unfold b_path
  rw [v_pl_b (σ := σ) (x := x) 32 (bt_lp x 3 []) _ rfl rfl, bt_lp_at]
  rfl
theorem u_pth_R (r : u_R x x') : u_pth σ x' = u_pth σ x := by
  rw [← u_pth_e, ← u_pth_e]
  exact v_path_cX r.cX
theorem t_crit (hV : z_V α σ) (h : v_Inv σ x) (hroom : bt_us α + 110 ≤ bp_max) : bq_S G mX5_criticals 8 [.ref (bt_ad α 5 0)] (bt α σ x) (bq_ret (some (.int (nI (u_pth σ x).length))) (bt α σ (b_path σ x))) := by
  have K := k_crit (G := G) (hV.ok h) (by omega)
  rw [show b_crit σ x = (.inl (some (.int (nI (u_pth σ x).length))), σ, b_path σ x) by unfold b_crit; rw [u_pth_e]] at K
  exact K
/-- from an operation at place p of the order the way back has at most p + 1 -/
theorem u_pl_len (h : v_Inv σ x) : ∀ (n : Nat) (a : Option Nat) (p : Nat), (∀ i, a = some i → ∃ q : Nat, q < p ∧ (x.2.2 2)[q]? = some i) → (v_pl σ x n a).length ≤ p := by
  obtain ⟨hSo, hS⟩ := v_Sx h
  intro n
  induction n with
  | zero => intro a p _; cases a <;> exact Nat.zero_le _
  | succ n ih =>
    intro a p ha
    cases a with
    | none => exact Nat.zero_le _
    | some i =>
      obtain ⟨q, hq, hi⟩ := ha i rfl
      show (v_pl σ x n (b_ahead σ x i)).length + 1 ≤ p
      have := ih (b_ahead σ x i) q (fun b hb => by
        obtain ⟨n', q1, q2⟩ := hSo.2.2.1 q i hi b (v_ahead_some h hb)
        exact ⟨n', q1, q2⟩)
      omega
theorem u_pl_mem (h : v_Inv σ x) : ∀ (n : Nat) (a : Option Nat), (∀ i, a = some i → i ∈ x.2.2 2) → ∀ i ∈ v_pl σ x n a, i ∈ x.2.2 2 := by
  intro n
  induction n with
  | zero => intro a _ i hi; cases a <;> exact absurd hi List.not_mem_nil
  | succ n ih =>
    intro a ha i hi
    cases a with
    | none => exact absurd hi List.not_mem_nil
    | some b =>
      rcases List.mem_cons.mp hi with rfl | hi
      · exact ha _ rfl
      · exact ih _ (fun c hc => (v_ahead_le h (ha b rfl) (v_ahead_some h hc)).1) i hi
/-- one goes back to what finishes no later than one starts -/
theorem u_pl_step (h : v_Inv σ x) : ∀ (n : Nat) (a : Option Nat), (∀ i, a = some i → i ∈ x.2.2 2) → ∀ t i b : Nat, (v_pl σ x n a)[t]? = some i → (v_pl σ x n a)[t + 1]? = some b → u_F σ x b ≤ v_s x i := by
  intro n
  induction n with
  | zero => intro a _ t i b hi; cases a <;> simp [v_pl] at hi
  | succ n ih =>
    intro a ha t i b hi hb
    cases a with
    | none => simp [v_pl] at hi
    | some c =>
      have hc := ha c rfl
      have hin : ∀ i, b_ahead σ x c = some i → i ∈ x.2.2 2 := fun d hd => (v_ahead_le h hc (v_ahead_some h hd)).1
      cases t with
      | zero =>
        have e1 : i = c := (Option.some.inj hi).symm
        subst e1
        have hb : (v_pl σ x n (b_ahead σ x i))[0]? = some b := hb
        cases n with
        | zero => cases e : b_ahead σ x i <;> rw [e] at hb <;> simp [v_pl] at hb
        | succ n =>
          cases e : b_ahead σ x i with
          | none => rw [e] at hb; simp [v_pl] at hb
          | some d =>
            rw [e] at hb
            have e2 : b = d := (Option.some.inj hb).symm
            subst e2
            exact (v_ahead_le h hc (v_ahead_some h e)).2
      | succ t => exact ih _ hin t i b hi hb
theorem u_pth_s (h : v_Inv σ x) : (∀ i ∈ u_pth σ x, i ∈ x.2.2 2) ∧ (u_pth σ x).length ≤ (x.2.2 2).length ∧ (∀ t i b : Nat, (u_pth σ x)[t]? = some i → (u_pth σ x)[t + 1]? = some b → u_F σ x b ≤ v_s x i) ∧
    (∀ r, (u_pth σ x)[0]? = some r → nI (u_F σ x r) = x.1 4 0 5) ∧ ((u_pth σ x).length = 0 → (x.2.2 2).length = 0) := by
  obtain ⟨k1, k2⟩ := v_lastJ h (b_nj σ) 0 (Nat.zero_add _)
  have ej : σ.2.2 1 = List.range' 0 (b_nj σ) := by rw [h.1.1.1.2.2.1, List.range_eq_range']
  rw [← ej] at k1 k2
  have hin : ∀ i, b_lastJ σ x (σ.2.2 1) = some i → i ∈ x.2.2 2 := fun i hi => (k1 i hi).1.1
  refine ⟨u_pl_mem h 32 _ hin, u_pl_len h 32 _ _ (fun i hi => ?_), u_pl_step h 32 _ hin, fun r hr => ?_, fun e => ?_⟩
  · obtain ⟨q, hq⟩ := v_mem (hin i hi)
    exact ⟨q, v_lt hq, hq⟩
  · unfold u_pth at hr
    cases e : b_lastJ σ x (σ.2.2 1) with
    | none => rw [e] at hr; simp [v_pl] at hr
    | some c =>
      rw [e] at hr
      have e1 : r = c := (Option.some.inj hr).symm
      subst e1
      obtain ⟨⟨q1, q2⟩, -⟩ := k1 r e
      rw [← q2, (u_F_b h q1).2.2.1]
  · unfold u_pth at e
    cases e1 : b_lastJ σ x (σ.2.2 1) with
    | some c => rw [e1] at e; simp [v_pl] at e
    | none =>
      refine Classical.byContradiction fun hne => ?_
      obtain ⟨P, p1, p2, p3, p4⟩ := u_P h
      obtain ⟨i, hi⟩ : ∃ i, i ∈ x.2.2 2 := List.exists_mem_of_length_pos (by omega)
      have hb := u_F_b h hi
      rcases p4 with p4 | ⟨r, r1, r2⟩
      · have := p3 i hi; omega
      · exact k2 e1 r (Nat.zero_le _) ⟨r1, by rw [(u_F_b h r1).2.2.1, p2, r2]⟩
theorem t_crAt (hV : z_V α σ) (h : v_Inv σ x) {k i : Nat} (hk : k < (u_pth σ x).length) (hi : (u_pth σ x)[(u_pth σ x).length - 1 - k]? = some i) (hroom : bt_us α + 110 ≤ bp_max) :
    bq_S G mX5_criticalAt 8 [.ref (bt_ad α 5 0), .int (nI k)] (bt α σ x) (bq_ret (some (.int (nI (10 * (i / 4) + i % 4)))) (bt α σ (b_path σ x))) := by
  obtain ⟨s1, s2, -⟩ := u_pth_s h
  have h32 := (v_Sx h).1.2.2.2.2.1
  have hop := (u_F_b h (s1 i (List.mem_of_getElem? hi))).2.2.2.2.2
  have e : b_crAt σ x (nI k) = (.inl (some (.int (nI (10 * (i / 4) + i % 4)))), σ, b_path σ x) := by
    unfold b_crAt
    rw [u_pth_e, if_neg (nI_pos (by omega)), if_pos (nI_lt hk (by omega)), nI_clamp (by omega), List.getD_eq_getElem?_getD, hi]
    show (Sum.inl (some (Value.int (b_code σ i))), σ, b_path σ x) = _
    rw [v_code h.1.1.1 h.1.1.2.1 h.1.1.2.2.2.2.1 hop]
    rfl
  have K := k_crAt (G := G) (p := nI k) (hV.ok h) (by omega)
  rw [e] at K
  exact K
end UQ
