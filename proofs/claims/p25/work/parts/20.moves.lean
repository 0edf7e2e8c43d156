/-! ===== place, rush, remove, swap ===== -/
theorem bt_rowV {α : bt_A} {σ x : bt_X} {G : bp_X} {M : bp_M} {d pc : Nat} {lv : List (Nat × Value)} {st : List Value} {Φ : bp_O → bq_O → Prop} {m : Nat} (J : bt_J α σ x) (hV : bt_V α 1 m)
    (kk : (∀ y ∈ x.2.2 (4 + m), bt_V α 2 y) → bq_W G M d pc lv st (bt α σ x) Φ) : bq_W G M d pc lv st (bt α σ x) Φ :=
  bt_els (J.row hV) (fun g => kk (fun y hy => by
    have := g y (by rw [bt_lv (bt_sl_row (J.m4 hV))]; exact hy)
    rw [bt_lc_row] at this
    exact this))
def b_place (σ : bt_X) : bt_X → List Nat → bt_X
  | x, [] => x
  | x, i :: os => b_place σ (b_ins x (b_m σ i) (x.2.2 (4 + b_m σ i)).length i) os
def b_rush (σ : bt_X) : bt_X → List Nat → bt_X
  | x, [] => x
  | x, i :: os => b_rush σ (b_best σ x i) os
def b_rem (j : Nat) : bt_X → List Nat → bt_X
  | x, [] => x
  | x, m :: L => b_rem j (b_outAll x m j) L
def b_plcF (σ x : bt_X) (a : Int32) : b_R := match b_wj σ a with
  | .inr E => (.inr E, σ, x)
  | .inl j => (.inl (some (.int ((b_all (bt_gs σ 0 j 3 (nI 1)) (b_place σ x (σ.2.2 (8 + j)))).2.1 4 0 5))), bt_gs σ 0 j 3 (nI 1), (b_all (bt_gs σ 0 j 3 (nI 1)) (b_place σ x (σ.2.2 (8 + j)))).2)
def b_rshF (σ x : bt_X) (a : Int32) : b_R := match b_wj σ a with
  | .inr E => (.inr E, σ, x)
  | .inl j => (.inl (some (.int ((b_all (bt_gs σ 0 j 3 (nI 1)) (b_rush σ x (σ.2.2 (8 + j)))).2.1 4 0 5))), bt_gs σ 0 j 3 (nI 1), (b_all (bt_gs σ 0 j 3 (nI 1)) (b_rush σ x (σ.2.2 (8 + j)))).2)
def b_remF (σ x : bt_X) (a : Int32) : b_R := match b_pj σ a with
  | .inr E => (.inr E, σ, x)
  | .inl j => (.inl (some (.int ((b_all (bt_gs σ 0 j 3 (nI 0)) (b_rem j x (σ.2.2 0))).2.1 4 0 5))), bt_gs σ 0 j 3 (nI 0), (b_all (bt_gs σ 0 j 3 (nI 0)) (b_rem j x (σ.2.2 0))).2)
/-- two neighbours of a row exchanged -/
def b_xc (x : bt_X) (m p : Nat) : bt_X := b_exch x m p ((x.2.2 (4 + m)).getD p 0) ((x.2.2 (4 + m)).getD (p + 1) 0)
def b_swpF (σ x : bt_X) (a p : Int32) : b_R := match b_ix (b_nm σ) a with
  | none => (.inr b_IO, σ, x)
  | some m => if p < 0 then (.inr b_IO, σ, x) else if p < nI (x.2.2 (4 + m)).length - nI 1 then
      (if (b_all σ (b_xc x m p.toNatClampNeg)).1 = 0 then (.inr b_IS, σ, (b_all σ (b_xc (b_all σ (b_xc x m p.toNatClampNeg)).2 m p.toNatClampNeg)).2)
       else (.inl (some (.int ((b_all σ (b_xc x m p.toNatClampNeg)).2.1 4 0 5))), σ, (b_all σ (b_xc x m p.toNatClampNeg)).2)) else (.inr b_IO, σ, x)
theorem b_Ok.v1m {α : bt_A} {σ x : bt_X} (h : b_Ok α σ x) : ∀ m, bt_V α 1 m → m ∈ σ.2.2 0 := fun m hm => h.mem ((h.2.2.2.1 m).mp hm)
theorem b_try_inv {α : bt_A} {σ : bt_X} {i m : Nat} {row : List Nat} (hO : bt_V α 2 i) (h0 : (σ.2.2 0).length ≤ 4) (h1 : (σ.2.2 1).length ≤ 8) (hn : (σ.2.2 0).Nodup) (hmm : m ∈ σ.2.2 0) (hrow : ∀ y ∈ row, bt_V α 2 y) (hlen : row.length ≤ 31) :
    ∀ (n j : Nat) (x : bt_X) (b : Nat) (s t : Int32), j + n = row.length + 1 → bt_J α σ x → x.2.2 (4 + m) = row → b_cnt x (σ.2.2 0) ≤ 31 → b ≤ row.length →
    bt_J α σ (b_try σ i m n j x b s t).2 ∧ (∀ l, l ≠ 2 → (b_try σ i m n j x b s t).2.2.2 l = x.2.2 l) ∧ (b_try σ i m n j x b s t).1 ≤ row.length := by
  intro n
  induction n with
  | zero => intro j x b s t hj J hr hc hb; exact ⟨J, fun _ _ => rfl, hb⟩
  | succ n ih =>
    intro j x b s t hj J hr hc hb
    have hjl : j ≤ (x.2.2 (4 + m)).length := by rw [hr]; omega
    have hrx : ∀ y ∈ x.2.2 (4 + m), bt_V α 2 y := by rw [hr]; exact hrow
    have hH := b_H0_ins (i := i) h0 h1 hn hmm hc hjl
    have J1 : bt_J α σ (b_ins x m j i) := J.ins hrx hO hjl
    obtain ⟨q1, q2, q3⟩ := b_all_fr hH
    have hr2 : (b_all σ (b_ins x m j i)).2.2.2 (4 + m) = row.insertIdx j i := by rw [q2 _ (by omega), b_ins_l, hr]
    have J2 : bt_J α σ (b_all σ (b_ins x m j i)).2 := J1.any q1
    have J3 : bt_J α σ (b_out (b_all σ (b_ins x m j i)).2 m j) := J2.out (fun y hy => by
      rw [hr2] at hy
      rcases (List.mem_insertIdx (by omega)).mp hy with rfl | hy
      · exact hO
      · exact hrow y hy)
    have hr3 : (b_out (b_all σ (b_ins x m j i)).2 m j).2.2 (4 + m) = row := by rw [b_out_l, hr2]; exact b_ins_out (by omega)
    have hl3 : ∀ l, l ≠ 2 → (b_out (b_all σ (b_ins x m j i)).2 m j).2.2 l = x.2.2 l := fun l hl => by
      by_cases e : l = 4 + m
      · subst e; rw [hr3, hr]
      · rw [b_out_n e, q2 _ hl, b_ins_n e]
    have hc3 : b_cnt (b_out (b_all σ (b_ins x m j i)).2 m j) (σ.2.2 0) ≤ 31 := by
      rw [b_cnt_ext (x := x) (fun m' _ => by rw [hl3 _ (by omega)])]
      exact hc
    have go : ∀ (b' : Nat) (s' t' : Int32), b' ≤ row.length → bt_J α σ (b_try σ i m n (j + 1) (b_out (b_all σ (b_ins x m j i)).2 m j) b' s' t').2 ∧ (∀ l, l ≠ 2 → (b_try σ i m n (j + 1) (b_out (b_all σ (b_ins x m j i)).2 m j) b' s' t').2.2.2 l = x.2.2 l) ∧ (b_try σ i m n (j + 1) (b_out (b_all σ (b_ins x m j i)).2 m j) b' s' t').1 ≤ row.length := fun b' s' t' hb' => by
      obtain ⟨z1, z2, z3⟩ := ih (j + 1) (b_out (b_all σ (b_ins x m j i)).2 m j) b' s' t' (by omega) J3 hr3 hc3 hb'
      exact ⟨z1, fun l hl => (z2 l hl).trans (hl3 l hl), z3⟩
    unfold b_try
    simp only []
    split
    · exact go _ _ _ hb
    · split
      · exact go _ _ _ (by omega)
      · split
        · split
          · exact go _ _ _ hb
          · exact go _ _ _ (by omega)
        · exact go _ _ _ hb
theorem b_best_inv {α : bt_A} {σ x : bt_X} {i m : Nat} (J : bt_J α σ x) (hO : bt_V α 2 i) (hm : σ.2.1 2 i 2 = some m) (h0 : (σ.2.2 0).length ≤ 4) (h1 : (σ.2.2 1).length ≤ 8) (hn : (σ.2.2 0).Nodup) (hmm : m ∈ σ.2.2 0) (hrow : ∀ y ∈ x.2.2 (4 + m), bt_V α 2 y) (hc : b_cnt x (σ.2.2 0) ≤ 31) :
    bt_J α σ (b_best σ x i) ∧ b_cnt (b_best σ x i) (σ.2.2 0) = b_cnt x (σ.2.2 0) + 1 := by
  have hlen := Nat.le_trans (b_cnt_mem (x := x) hmm) hc
  obtain ⟨z1, z2, z3⟩ := b_try_inv hO h0 h1 hn hmm hrow hlen ((x.2.2 (4 + m)).length + 1) 0 x (x.2.2 (4 + m)).length (1000000 : Int32) (1000000 : Int32) (by omega) J rfl hc (Nat.le_refl _)
  unfold b_best
  rw [b_m_of hm]
  simp only []
  generalize b_try σ i m ((x.2.2 (4 + m)).length + 1) 0 x (x.2.2 (4 + m)).length (1000000 : Int32) (1000000 : Int32) = r at z1 z2 z3 ⊢
  have hr : r.2.2.2 (4 + m) = x.2.2 (4 + m) := z2 _ (by omega)
  refine ⟨z1.ins (by rw [hr]; exact hrow) hO (by rw [hr]; exact z3), ?_⟩
  refine b_cnt_one hn hmm (fun m' hm' => by rw [b_ins_n (by omega), z2 _ (by omega)]) ?_
  rw [b_ins_l, List.length_insertIdx_of_le_length (by rw [hr]; exact z3), hr]
theorem b_outAll_l {x : bt_X} {m j : Nat} : (b_outAll x m j).2.2 (4 + m) = b_keep j (x.2.2 (4 + m)) := by
  unfold b_outAll
  rw [b_link_l, bt_lp_at]
theorem b_outAll_n {x : bt_X} {m j n : Nat} (h : n ≠ 4 + m) : (b_outAll x m j).2.2 n = x.2.2 n := by
  unfold b_outAll
  rw [b_link_l, bt_lp_ne h]
theorem b_cnt_le {x y : bt_X} {L : List Nat} (h : ∀ m ∈ L, (y.2.2 (4 + m)).length ≤ (x.2.2 (4 + m)).length) : b_cnt y L ≤ b_cnt x L := by
  induction L with
  | nil => exact Nat.le_refl _
  | cons m L ih =>
    unfold b_cnt
    have h1 := h m List.mem_cons_self
    have h2 := ih (fun m' hm => h m' (List.mem_cons_of_mem _ hm))
    omega
theorem b_exch_l {x : bt_X} {m p a b : Nat} : (b_exch x m p a b).2.2 (4 + m) = ((x.2.2 (4 + m)).set p b).set (p + 1) a := by
  unfold b_exch
  rw [b_link_l, bt_lp_at]
theorem b_exch_n {x : bt_X} {m p a b n : Nat} (h : n ≠ 4 + m) : (b_exch x m p a b).2.2 n = x.2.2 n := by
  unfold b_exch
  rw [b_link_l, bt_lp_ne h]
theorem bt_J.exch {α : bt_A} {σ x : bt_X} {m p a b : Nat} (J : bt_J α σ x) (h : ∀ i ∈ x.2.2 (4 + m), bt_V α 2 i) (ha : bt_V α 2 a) (hb : bt_V α 2 b) : bt_J α σ (b_exch x m p a b) := by
  unfold b_exch
  refine J.lp.link (fun y hy => ?_)
  rw [bt_lp_at] at hy
  rcases List.mem_or_eq_of_mem_set hy with hy | rfl
  · rcases List.mem_or_eq_of_mem_set hy with hy | rfl
    · exact h y hy
    · exact hb
  · exact ha
set_option maxRecDepth 100000 in
set_option maxHeartbeats 400000 in
theorem c_place_l {G : bp_X} {α : bt_A} {σ : bt_X} {j : Nat} {Φ : bp_O → bq_O → Prop} (hS : b_St σ) (hmem : ∀ m, bt_V α 1 m → m ∈ σ.2.2 0) (hop : ∀ i ∈ σ.2.2 (8 + j), bt_V α 2 i) (hlen : (σ.2.2 (8 + j)).length ≤ 4) (hVj : bt_V α 0 j) (os : List Nat) : ∀ (x : bt_X) (n : Nat), bt_J α σ x → b_cnt x (σ.2.2 0) + os.length ≤ 32 → n ≤ 5 → (σ.2.2 (8 + j)).drop n = os →
    (bt_J α σ (b_place σ x os) → b_cnt (b_place σ x os) (σ.2.2 0) ≤ 32 → bq_W G mX5_place 10 59 [(0, .ref (bt_ad α 5 0)), (2, .ref (bt_ad α 0 j))] [] (bt α σ (b_place σ x os)) Φ) → bq_W G mX5_place 10 8 [(0, .ref (bt_ad α 5 0)), (2, .ref (bt_ad α 0 j)), (3, .int (nI n))] [] (bt α σ x) Φ := by
  induction os with
  | nil =>
    intro x n J hc hn hd kk
    refine bq_iload_n (i := 3) dX5_place_8 rfl ?_
    refine bq_aload_n (i := 2) dX5_place_9 rfl ?_
    refine bt_get3 (c' := 7) (n := (8 + j)) dX5_place_10 fl_X5_101 (by first | assumption | exact J.v3 | exact J.v4 | exact J.v5 | exact J.v6 | exact J.l0 | exact J.l1 | exact J.l2 | exact J.l3 | exact J.row (by assumption) | exact J.ops (by assumption) | exact J.job (by assumption)) ⟨rfl, rfl, rfl⟩ (by decide) ?_
    refine bt_size dX5_place_13 ml_X5_20 (by first | assumption | exact J.v3 | exact J.v4 | exact J.v5 | exact J.v6 | exact J.l0 | exact J.l1 | exact J.l2 | exact J.l3 | exact J.row (by assumption) | exact J.ops (by assumption) | exact J.job (by assumption)) (bt_ls bt_sl_ops) (by decide) (Nat.le_of_ble_eq_true rfl) ?_
    refine bq_icmp_ge (tgt := 59) dX5_place_16 (by decide) (fun c_16 => ?_) (fun z9_ => absurd (show nI (σ.2.2 (8 + j)).length ≤ nI n from nI_le (b_drop0 hd) (by omega)) z9_)
    refine bq_lvs (lv' := [(0, .ref (bt_ad α 5 0)), (2, .ref (bt_ad α 0 j))]) ⟨rfl, rfl, trivial⟩ ?_
    exact kk J hc
  | cons i os ih =>
    intro x n J hc hn hd kk
    obtain ⟨hi, hd1, hn1⟩ := b_dropc hd
    have hO := hop i (List.mem_of_getElem? hi)
    obtain ⟨m, hm, hVm⟩ := J.mach hO
    have hm4 := J.m4 hVm
    have hmm := hmem m hVm
    rw [List.length_cons] at hc
    have hlm := b_cnt_mem (x := x) hmm
    unfold b_place at kk
    refine bt_rowV J hVm (fun hrow => ?_)
    rw [b_m_of hm] at kk
    have J2 : bt_J α σ (b_ins x m (x.2.2 (4 + m)).length i) := J.ins hrow hO (Nat.le_refl _)
    have hc2 : b_cnt (b_ins x m (x.2.2 (4 + m)).length i) (σ.2.2 0) + os.length ≤ 32 := by
      rw [b_cnt_one (x := x) hS.nd hmm (fun m' hm' => b_ins_n (by omega)) (by rw [b_ins_l, List.length_insertIdx_of_le_length (Nat.le_refl _)])]
      omega
    refine bq_iload_n (i := 3) dX5_place_8 rfl ?_
    refine bq_aload_n (i := 2) dX5_place_9 rfl ?_
    refine bt_get3 (c' := 7) (n := (8 + j)) dX5_place_10 fl_X5_101 (by first | assumption | exact J.v3 | exact J.v4 | exact J.v5 | exact J.v6 | exact J.l0 | exact J.l1 | exact J.l2 | exact J.l3 | exact J.row (by assumption) | exact J.ops (by assumption) | exact J.job (by assumption)) ⟨rfl, rfl, rfl⟩ (by decide) ?_
    refine bt_size dX5_place_13 ml_X5_20 (by first | assumption | exact J.v3 | exact J.v4 | exact J.v5 | exact J.v6 | exact J.l0 | exact J.l1 | exact J.l2 | exact J.l3 | exact J.row (by assumption) | exact J.ops (by assumption) | exact J.job (by assumption)) (bt_ls bt_sl_ops) (by decide) (Nat.le_of_ble_eq_true rfl) ?_
    refine bq_icmp_ge (tgt := 59) dX5_place_16 (by decide) (fun z9_ => absurd z9_ (show ¬ nI (σ.2.2 (8 + j)).length ≤ nI n from nI_ge hn1 (by omega))) (fun c_16 => ?_)
    refine bq_aload_n (i := 2) dX5_place_19 rfl ?_
    refine bt_get3 (c' := 7) (n := (8 + j)) dX5_place_20 fl_X5_101 (by first | assumption | exact J.v3 | exact J.v4 | exact J.v5 | exact J.v6 | exact J.l0 | exact J.l1 | exact J.l2 | exact J.l3 | exact J.row (by assumption) | exact J.ops (by assumption) | exact J.job (by assumption)) ⟨rfl, rfl, rfl⟩ (by decide) ?_
    refine bq_iload_n (i := 3) dX5_place_23 rfl ?_
    refine bt_geti (j := n) (y := i) (c' := 2) dX5_place_24 ml_X5_143 (by first | assumption | exact J.v3 | exact J.v4 | exact J.v5 | exact J.v6 | exact J.l0 | exact J.l1 | exact J.l2 | exact J.l3 | exact J.row (by assumption) | exact J.ops (by assumption) | exact J.job (by assumption)) (bt_ls bt_sl_ops) rfl hi bt_lc_ops (by decide) (Nat.le_of_ble_eq_true rfl) (fun v_24 => ?_)
    refine bt_cast (c := 2) dX5_place_27 rfl cl_X5_147 (by first | assumption | exact J.v3 | exact J.v4 | exact J.v5 | exact J.v6 | exact J.l0 | exact J.l1 | exact J.l2 | exact J.l3 | exact J.row (by assumption) | exact J.ops (by assumption) | exact J.job (by assumption)) (by decide) ?_
    refine bq_astore (i := 4) dX5_place_30 (by decide) ?_
    refine bq_aload (i := 4) dX5_place_32 rfl ?_
    refine bt_get5s (c' := 1) (a := m) dX5_place_34 fl_X5_149 (by first | assumption | exact J.v3 | exact J.v4 | exact J.v5 | exact J.v6 | exact J.l0 | exact J.l1 | exact J.l2 | exact J.l3 | exact J.row (by assumption) | exact J.ops (by assumption) | exact J.job (by assumption)) ⟨rfl, rfl⟩ (by decide) hm ?_
    refine bq_aload (i := 4) dX5_place_37 rfl ?_
    refine bq_aload (i := 4) dX5_place_39 rfl ?_
    refine bt_get5s (c' := 1) (a := m) dX5_place_41 fl_X5_149 (by first | assumption | exact J.v3 | exact J.v4 | exact J.v5 | exact J.v6 | exact J.l0 | exact J.l1 | exact J.l2 | exact J.l3 | exact J.row (by assumption) | exact J.ops (by assumption) | exact J.job (by assumption)) ⟨rfl, rfl⟩ (by decide) hm ?_
    refine bt_get3 (c' := 7) (n := (4 + m)) dX5_place_44 fl_X5_153 (by first | assumption | exact J.v3 | exact J.v4 | exact J.v5 | exact J.v6 | exact J.l0 | exact J.l1 | exact J.l2 | exact J.l3 | exact J.row (by assumption) | exact J.ops (by assumption) | exact J.job (by assumption)) ⟨rfl, rfl, rfl⟩ (by decide) ?_
    refine bt_size dX5_place_47 ml_X5_20 (by first | assumption | exact J.v3 | exact J.v4 | exact J.v5 | exact J.v6 | exact J.l0 | exact J.l1 | exact J.l2 | exact J.l3 | exact J.row (by assumption) | exact J.ops (by assumption) | exact J.job (by assumption)) (bt_lv (bt_sl_row (by assumption))) (by decide) (Nat.le_of_ble_eq_true rfl) ?_
    refine bt_callVr (c := 1) (i := m) dX5_place_50 rfl ml_X5_156 (by first | assumption | exact J.v3 | exact J.v4 | exact J.v5 | exact J.v6 | exact J.l0 | exact J.l1 | exact J.l2 | exact J.l3 | exact J.row (by assumption) | exact J.ops (by assumption) | exact J.job (by assumption)) (by decide) (c_ins J hVm hO (by omega) (Nat.le_refl _)) (by decide) (by decide) (Nat.le_of_ble_eq_true rfl) rfl ?_
    refine bq_iinc dX5_place_53 rfl (by decide) (by first | exact bp_inc _ | rfl) ?_
    refine bq_goto (tgt := 8) dX5_place_56 (by decide) ?_
    refine bq_lvs (lv' := [(0, .ref (bt_ad α 5 0)), (2, .ref (bt_ad α 0 j)), (3, .int (nI (n + 1)))]) ⟨rfl, rfl, rfl, trivial⟩ ?_
    exact ih _ (n + 1) J2 hc2 (by omega) hd1 kk
set_option maxRecDepth 100000 in
set_option maxHeartbeats 400000 in
theorem c_rush_l {G : bp_X} {α : bt_A} {σ : bt_X} {j : Nat} {Φ : bp_O → bq_O → Prop} (hS : b_St σ) (hmem : ∀ m, bt_V α 1 m → m ∈ σ.2.2 0) (hop : ∀ i ∈ σ.2.2 (8 + j), bt_V α 2 i) (hlen : (σ.2.2 (8 + j)).length ≤ 4) (hVj : bt_V α 0 j) (os : List Nat) : ∀ (x : bt_X) (n : Nat), bt_J α σ x → b_cnt x (σ.2.2 0) + os.length ≤ 32 → n ≤ 5 → (σ.2.2 (8 + j)).drop n = os →
    (bt_J α σ (b_rush σ x os) → b_cnt (b_rush σ x os) (σ.2.2 0) ≤ 32 → bq_W G mX5_rush 11 43 [(0, .ref (bt_ad α 5 0)), (2, .ref (bt_ad α 0 j))] [] (bt α σ (b_rush σ x os)) Φ) → bq_W G mX5_rush 11 8 [(0, .ref (bt_ad α 5 0)), (2, .ref (bt_ad α 0 j)), (3, .int (nI n))] [] (bt α σ x) Φ := by
  induction os with
  | nil =>
    intro x n J hc hn hd kk
    refine bq_iload_n (i := 3) dX5_rush_8 rfl ?_
    refine bq_aload_n (i := 2) dX5_rush_9 rfl ?_
    refine bt_get3 (c' := 7) (n := (8 + j)) dX5_rush_10 fl_X5_101 (by first | assumption | exact J.v3 | exact J.v4 | exact J.v5 | exact J.v6 | exact J.l0 | exact J.l1 | exact J.l2 | exact J.l3 | exact J.row (by assumption) | exact J.ops (by assumption) | exact J.job (by assumption)) ⟨rfl, rfl, rfl⟩ (by decide) ?_
    refine bt_size dX5_rush_13 ml_X5_20 (by first | assumption | exact J.v3 | exact J.v4 | exact J.v5 | exact J.v6 | exact J.l0 | exact J.l1 | exact J.l2 | exact J.l3 | exact J.row (by assumption) | exact J.ops (by assumption) | exact J.job (by assumption)) (bt_ls bt_sl_ops) (by decide) (Nat.le_of_ble_eq_true rfl) ?_
    refine bq_icmp_ge (tgt := 43) dX5_rush_16 (by decide) (fun c_16 => ?_) (fun z9_ => absurd (show nI (σ.2.2 (8 + j)).length ≤ nI n from nI_le (b_drop0 hd) (by omega)) z9_)
    refine bq_lvs (lv' := [(0, .ref (bt_ad α 5 0)), (2, .ref (bt_ad α 0 j))]) ⟨rfl, rfl, trivial⟩ ?_
    exact kk J hc
  | cons i os ih =>
    intro x n J hc hn hd kk
    obtain ⟨hi, hd1, hn1⟩ := b_dropc hd
    have hO := hop i (List.mem_of_getElem? hi)
    obtain ⟨m, hm, hVm⟩ := J.mach hO
    have hm4 := J.m4 hVm
    have hmm := hmem m hVm
    rw [List.length_cons] at hc
    have hlm := b_cnt_mem (x := x) hmm
    unfold b_rush at kk
    refine bt_rowV J hVm (fun hrow => ?_)
    obtain ⟨J2, hb2⟩ := b_best_inv J hO hm hS.2.1 hS.2.2.2.1 hS.nd hmm hrow (by omega)
    have hc2 : b_cnt (b_best σ x i) (σ.2.2 0) + os.length ≤ 32 := by omega
    refine bq_iload_n (i := 3) dX5_rush_8 rfl ?_
    refine bq_aload_n (i := 2) dX5_rush_9 rfl ?_
    refine bt_get3 (c' := 7) (n := (8 + j)) dX5_rush_10 fl_X5_101 (by first | assumption | exact J.v3 | exact J.v4 | exact J.v5 | exact J.v6 | exact J.l0 | exact J.l1 | exact J.l2 | exact J.l3 | exact J.row (by assumption) | exact J.ops (by assumption) | exact J.job (by assumption)) ⟨rfl, rfl, rfl⟩ (by decide) ?_
    refine bt_size dX5_rush_13 ml_X5_20 (by first | assumption | exact J.v3 | exact J.v4 | exact J.v5 | exact J.v6 | exact J.l0 | exact J.l1 | exact J.l2 | exact J.l3 | exact J.row (by assumption) | exact J.ops (by assumption) | exact J.job (by assumption)) (bt_ls bt_sl_ops) (by decide) (Nat.le_of_ble_eq_true rfl) ?_
    refine bq_icmp_ge (tgt := 43) dX5_rush_16 (by decide) (fun z9_ => absurd z9_ (show ¬ nI (σ.2.2 (8 + j)).length ≤ nI n from nI_ge hn1 (by omega))) (fun c_16 => ?_)
    refine bq_aload_n (i := 0) dX5_rush_19 rfl ?_
    refine bt_get3 (c' := 4) (n := 0) dX5_rush_20 fl_X5_12 (by first | assumption | exact J.v3 | exact J.v4 | exact J.v5 | exact J.v6 | exact J.l0 | exact J.l1 | exact J.l2 | exact J.l3 | exact J.row (by assumption) | exact J.ops (by assumption) | exact J.job (by assumption)) ⟨rfl, rfl, rfl⟩ (by decide) ?_
    refine bq_aload_n (i := 2) dX5_rush_23 rfl ?_
    refine bt_get3 (c' := 7) (n := (8 + j)) dX5_rush_24 fl_X5_101 (by first | assumption | exact J.v3 | exact J.v4 | exact J.v5 | exact J.v6 | exact J.l0 | exact J.l1 | exact J.l2 | exact J.l3 | exact J.row (by assumption) | exact J.ops (by assumption) | exact J.job (by assumption)) ⟨rfl, rfl, rfl⟩ (by decide) ?_
    refine bq_iload_n (i := 3) dX5_rush_27 rfl ?_
    refine bt_geti (j := n) (y := i) (c' := 2) dX5_rush_28 ml_X5_143 (by first | assumption | exact J.v3 | exact J.v4 | exact J.v5 | exact J.v6 | exact J.l0 | exact J.l1 | exact J.l2 | exact J.l3 | exact J.row (by assumption) | exact J.ops (by assumption) | exact J.job (by assumption)) (bt_ls bt_sl_ops) rfl hi bt_lc_ops (by decide) (Nat.le_of_ble_eq_true rfl) (fun v_28 => ?_)
    refine bt_cast (c := 2) dX5_rush_31 rfl cl_X5_147 (by first | assumption | exact J.v3 | exact J.v4 | exact J.v5 | exact J.v6 | exact J.l0 | exact J.l1 | exact J.l2 | exact J.l3 | exact J.row (by assumption) | exact J.ops (by assumption) | exact J.job (by assumption)) (by decide) ?_
    refine bt_callVr (c := 4) (i := 0) dX5_rush_34 rfl ml_X5_160 (by first | assumption | exact J.v3 | exact J.v4 | exact J.v5 | exact J.v6 | exact J.l0 | exact J.l1 | exact J.l2 | exact J.l3 | exact J.row (by assumption) | exact J.ops (by assumption) | exact J.job (by assumption)) (by decide) (c_best J hO hm hVm hS.2.1 hS.2.2.2.1 hS.nd hmm hrow (by omega)) (by decide) (by decide) (Nat.le_of_ble_eq_true rfl) rfl ?_
    refine bq_iinc dX5_rush_37 rfl (by decide) (by first | exact bp_inc _ | rfl) ?_
    refine bq_goto (tgt := 8) dX5_rush_40 (by decide) ?_
    refine bq_lvs (lv' := [(0, .ref (bt_ad α 5 0)), (2, .ref (bt_ad α 0 j)), (3, .int (nI (n + 1)))]) ⟨rfl, rfl, rfl, trivial⟩ ?_
    exact ih _ (n + 1) J2 hc2 (by omega) hd1 kk
set_option maxRecDepth 100000 in
set_option maxHeartbeats 400000 in
theorem c_rem_l {G : bp_X} {α : bt_A} {σ : bt_X} {j : Nat} {Φ : bp_O → bq_O → Prop} (hS : b_St σ) (hmem : ∀ m, bt_V α 1 m ↔ m < b_nm σ) (hVj : bt_V α 0 j) (L : List Nat) : ∀ (x : bt_X) (n : Nat), bt_J α σ x → b_cnt x (σ.2.2 0) ≤ 32 → n ≤ 5 → (σ.2.2 0).drop n = L →
    (bt_J α σ (b_rem j x L) → b_cnt (b_rem j x L) (σ.2.2 0) ≤ 32 → bq_W G mX5_remove 10 46 [(0, .ref (bt_ad α 5 0)), (2, .ref (bt_ad α 0 j))] [] (bt α σ (b_rem j x L)) Φ) → bq_W G mX5_remove 10 8 [(0, .ref (bt_ad α 5 0)), (2, .ref (bt_ad α 0 j)), (3, .int (nI n))] [] (bt α σ x) Φ := by
  have hb : (σ.2.2 0).length ≤ 4 := hS.2.1
  induction L with
  | nil =>
    intro x n J hc hn hd kk
    refine bq_iload_n (i := 3) dX5_remove_8 rfl ?_
    refine bq_aload_n (i := 0) dX5_remove_9 rfl ?_
    refine bt_get3 (c' := 4) (n := 0) dX5_remove_10 fl_X5_12 (by first | assumption | exact J.v3 | exact J.v4 | exact J.v5 | exact J.v6 | exact J.l0 | exact J.l1 | exact J.l2 | exact J.l3 | exact J.row (by assumption) | exact J.ops (by assumption) | exact J.job (by assumption)) ⟨rfl, rfl, rfl⟩ (by decide) ?_
    refine bt_get3 (c' := 7) (n := 0) dX5_remove_13 fl_X5_16 (by first | assumption | exact J.v3 | exact J.v4 | exact J.v5 | exact J.v6 | exact J.l0 | exact J.l1 | exact J.l2 | exact J.l3 | exact J.row (by assumption) | exact J.ops (by assumption) | exact J.job (by assumption)) ⟨rfl, rfl, rfl⟩ (by decide) ?_
    refine bt_size dX5_remove_16 ml_X5_20 (by first | assumption | exact J.v3 | exact J.v4 | exact J.v5 | exact J.v6 | exact J.l0 | exact J.l1 | exact J.l2 | exact J.l3 | exact J.row (by assumption) | exact J.ops (by assumption) | exact J.job (by assumption)) rfl (by decide) (Nat.le_of_ble_eq_true rfl) ?_
    refine bq_icmp_ge (tgt := 46) dX5_remove_19 (by decide) (fun c_19 => ?_) (fun z9_ => absurd (show nI (σ.2.2 0).length ≤ nI n from nI_le (b_drop0 hd) (by omega)) z9_)
    refine bq_lvs (lv' := [(0, .ref (bt_ad α 5 0)), (2, .ref (bt_ad α 0 j))]) ⟨rfl, rfl, trivial⟩ ?_
    exact kk J hc
  | cons m L ih =>
    intro x n J hc hn hd kk
    obtain ⟨hi, hd1, hn1⟩ := b_dropc hd
    have hi2 := hi
    rw [hS.1, List.getElem?_range (show n < b_nm σ from hn1)] at hi2
    have hmn : m < b_nm σ := by cases hi2; exact hn1
    have hVm := (hmem m).mpr hmn
    have hlm := b_cnt_mem (x := x) (List.mem_of_getElem? hi)
    unfold b_rem at kk
    refine bt_rowV J hVm (fun hrow => ?_)
    have J2 : bt_J α σ (b_outAll x m j) := by
      unfold b_outAll
      refine J.lp.link (fun y hy => ?_)
      rw [bt_lp_at] at hy
      exact hrow y (List.mem_filter.mp hy).1
    have hc2 : b_cnt (b_outAll x m j) (σ.2.2 0) ≤ 32 := Nat.le_trans (b_cnt_le (fun m' _ => by
      by_cases e : m' = m
      · subst e; rw [b_outAll_l]; exact List.length_filter_le _ _
      · rw [b_outAll_n (by omega)]; exact Nat.le_refl _)) hc
    refine bq_iload_n (i := 3) dX5_remove_8 rfl ?_
    refine bq_aload_n (i := 0) dX5_remove_9 rfl ?_
    refine bt_get3 (c' := 4) (n := 0) dX5_remove_10 fl_X5_12 (by first | assumption | exact J.v3 | exact J.v4 | exact J.v5 | exact J.v6 | exact J.l0 | exact J.l1 | exact J.l2 | exact J.l3 | exact J.row (by assumption) | exact J.ops (by assumption) | exact J.job (by assumption)) ⟨rfl, rfl, rfl⟩ (by decide) ?_
    refine bt_get3 (c' := 7) (n := 0) dX5_remove_13 fl_X5_16 (by first | assumption | exact J.v3 | exact J.v4 | exact J.v5 | exact J.v6 | exact J.l0 | exact J.l1 | exact J.l2 | exact J.l3 | exact J.row (by assumption) | exact J.ops (by assumption) | exact J.job (by assumption)) ⟨rfl, rfl, rfl⟩ (by decide) ?_
    refine bt_size dX5_remove_16 ml_X5_20 (by first | assumption | exact J.v3 | exact J.v4 | exact J.v5 | exact J.v6 | exact J.l0 | exact J.l1 | exact J.l2 | exact J.l3 | exact J.row (by assumption) | exact J.ops (by assumption) | exact J.job (by assumption)) rfl (by decide) (Nat.le_of_ble_eq_true rfl) ?_
    refine bq_icmp_ge (tgt := 46) dX5_remove_19 (by decide) (fun z9_ => absurd z9_ (show ¬ nI (σ.2.2 0).length ≤ nI n from nI_ge hn1 (by omega))) (fun c_19 => ?_)
    refine bq_aload_n (i := 0) dX5_remove_22 rfl ?_
    refine bt_get3 (c' := 4) (n := 0) dX5_remove_23 fl_X5_12 (by first | assumption | exact J.v3 | exact J.v4 | exact J.v5 | exact J.v6 | exact J.l0 | exact J.l1 | exact J.l2 | exact J.l3 | exact J.row (by assumption) | exact J.ops (by assumption) | exact J.job (by assumption)) ⟨rfl, rfl, rfl⟩ (by decide) ?_
    refine bt_get3 (c' := 7) (n := 0) dX5_remove_26 fl_X5_16 (by first | assumption | exact J.v3 | exact J.v4 | exact J.v5 | exact J.v6 | exact J.l0 | exact J.l1 | exact J.l2 | exact J.l3 | exact J.row (by assumption) | exact J.ops (by assumption) | exact J.job (by assumption)) ⟨rfl, rfl, rfl⟩ (by decide) ?_
    refine bq_iload_n (i := 3) dX5_remove_29 rfl ?_
    refine bt_geti (j := n) (y := m) (c' := 1) dX5_remove_30 ml_X5_143 (by first | assumption | exact J.v3 | exact J.v4 | exact J.v5 | exact J.v6 | exact J.l0 | exact J.l1 | exact J.l2 | exact J.l3 | exact J.row (by assumption) | exact J.ops (by assumption) | exact J.job (by assumption)) rfl rfl hi rfl (by decide) (Nat.le_of_ble_eq_true rfl) (fun v_30 => ?_)
    refine bt_cast (c := 1) dX5_remove_33 rfl cl_X5_33 (by first | assumption | exact J.v3 | exact J.v4 | exact J.v5 | exact J.v6 | exact J.l0 | exact J.l1 | exact J.l2 | exact J.l3 | exact J.row (by assumption) | exact J.ops (by assumption) | exact J.job (by assumption)) (by decide) ?_
    refine bq_aload_n (i := 2) dX5_remove_36 rfl ?_
    refine bt_callVr (c := 1) (i := m) dX5_remove_37 rfl ml_X5_167 (by first | assumption | exact J.v3 | exact J.v4 | exact J.v5 | exact J.v6 | exact J.l0 | exact J.l1 | exact J.l2 | exact J.l3 | exact J.row (by assumption) | exact J.ops (by assumption) | exact J.job (by assumption)) (by decide) (c_outAll J hVm hVj (by omega)) (by decide) (by decide) (Nat.le_of_ble_eq_true rfl) rfl ?_
    refine bq_iinc dX5_remove_40 rfl (by decide) (by first | exact bp_inc _ | rfl) ?_
    refine bq_goto (tgt := 8) dX5_remove_43 (by decide) ?_
    refine bq_lvs (lv' := [(0, .ref (bt_ad α 5 0)), (2, .ref (bt_ad α 0 j)), (3, .int (nI (n + 1)))]) ⟨rfl, rfl, rfl, trivial⟩ ?_
    exact ih _ (n + 1) J2 hc2 (by omega) hd1 kk
theorem b_sub_lt {n : Nat} {p : Int32} (hn : n < 2 ^ 31) (h1 : ¬ p < 0) (h2 : p < nI n - nI 1) : p = nI p.toNatClampNeg ∧ p.toNatClampNeg + 1 < n := by
  have hpos : 1 ≤ n := by
    refine Decidable.byContradiction fun z => ?_
    have : n = 0 := by omega
    subst this
    have : (nI 0 - nI 1 : Int32) < 0 := by decide
    exact h1 (Int32.lt_trans h2 this)
  rw [pk_sub hpos] at h2
  obtain ⟨g1, g2⟩ := b_nn h1 h2 (by omega)
  exact ⟨g1, by omega⟩
theorem b_set_set {L : List Nat} {p a b : Nat} : ((L.set p b).set (p + 1) a).length = L.length := by rw [List.length_set, List.length_set]

