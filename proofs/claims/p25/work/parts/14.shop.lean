/-! ===== all times ===== -/
def b_tl (x : bt_X) (m : Nat) : Nat := (x.2.2 (4 + m)).length - (x.1 1 m 6).toNatClampNeg
def b_left (x : bt_X) : List Nat → Nat
  | [] => 0
  | m :: L => b_tl x m + b_left x L
def b_TI (x : bt_X) (L : List Nat) : Prop := ∀ m ∈ L, ∃ t : Nat, x.1 1 m 6 = nI t ∧ t ≤ (x.2.2 (4 + m)).length ∧ (x.2.2 (4 + m)).length ≤ 32
def b_rows (σ : bt_X) : bt_X → List Nat → bt_X
  | x, [] => x
  | x, m :: L => b_rows σ (b_row σ m x ((x.2.2 (4 + m)).drop (x.1 1 m 6).toNatClampNeg)) L
theorem b_left_same {x y : bt_X} {L : List Nat} (h : ∀ m ∈ L, b_tl y m = b_tl x m) : b_left y L = b_left x L := by
  induction L with
  | nil => rfl
  | cons m L ih =>
    unfold b_left
    rw [h m List.mem_cons_self, ih (fun m' hm => h m' (List.mem_cons_of_mem _ hm))]
theorem b_left_step {x y : bt_X} {m k : Nat} {L : List Nat} (hn : L.Nodup) (hm : m ∈ L) (h : ∀ m', m' ≠ m → b_tl y m' = b_tl x m') (hk : b_tl y m + k = b_tl x m) : b_left y L + k = b_left x L := by
  induction L with
  | nil => cases hm
  | cons a L ih =>
    unfold b_left
    rw [List.nodup_cons] at hn
    rcases List.mem_cons.mp hm with rfl | hm
    · have := b_left_same (x := x) (y := y) (L := L) (fun m' hm' => h m' (fun z => hn.1 (by rw [← z]; exact hm')))
      omega
    · have e : a ≠ m := fun z => hn.1 (by rw [z]; exact hm)
      have := ih hn.2 hm
      rw [h a e]
      omega
/-- one row's times keep what holds of all -/
theorem b_row_TI {σ x : bt_X} {m : Nat} {All : List Nat} (hn : All.Nodup) (hm : m ∈ All) (hT : b_TI x All) (ho : (x.2.2 2).length + b_left x All ≤ 32) :
    b_TI (b_row σ m x ((x.2.2 (4 + m)).drop (x.1 1 m 6).toNatClampNeg)) All ∧ ((b_row σ m x ((x.2.2 (4 + m)).drop (x.1 1 m 6).toNatClampNeg)).2.2 2).length + b_left (b_row σ m x ((x.2.2 (4 + m)).drop (x.1 1 m 6).toNatClampNeg)) All ≤ 32 := by
  obtain ⟨t, h1, h2, h3⟩ := hT m hm
  obtain ⟨g1, g2, g3, k, g4, g5, g6⟩ := b_row_fr (σ := σ) (m := m) ((x.2.2 (4 + m)).drop (x.1 1 m 6).toNatClampNeg) x
  have e : (x.1 1 m 6).toNatClampNeg = t := by rw [h1]; exact b_toNat_nI (by omega)
  rw [e] at g1 g2 g3 g4 g5 g6 ⊢
  rw [List.length_drop] at g4
  generalize b_row σ m x ((x.2.2 (4 + m)).drop t) = y at *
  have g7 : y.1 1 m 6 = nI (t + k) := by rw [g6, h1, nI_add]
  refine ⟨fun m' hm' => ?_, ?_⟩
  · by_cases c : m' = m
    · subst c
      exact ⟨t + k, g7, by rw [g2 _ (by omega)]; omega, by rw [g2 _ (by omega)]; exact h3⟩
    · obtain ⟨t', q1, q2, q3⟩ := hT m' hm'
      exact ⟨t', (g3 m' c).trans q1, by rw [g2 _ (by omega)]; exact q2, by rw [g2 _ (by omega)]; exact q3⟩
  · have := b_left_step (x := x) (y := y) (m := m) (k := k) hn hm (fun m' c => by unfold b_tl; rw [g2 _ (by omega), g3 m' c]) (by unfold b_tl; rw [g2 _ (by omega), g7, h1, b_toNat_nI (by omega), b_toNat_nI (by omega)]; omega)
    omega
theorem b_rows_TI {σ : bt_X} {All : List Nat} (hn : All.Nodup) : ∀ (L : List Nat) (x : bt_X), (∀ m ∈ L, m ∈ All) → b_TI x All → (x.2.2 2).length + b_left x All ≤ 32 →
    b_TI (b_rows σ x L) All ∧ ((b_rows σ x L).2.2 2).length + b_left (b_rows σ x L) All ≤ 32 ∧ (b_rows σ x L).2.1 = x.2.1 ∧ (∀ n, n ≠ 2 → (b_rows σ x L).2.2 n = x.2.2 n) ∧ (x.2.2 2).length ≤ ((b_rows σ x L).2.2 2).length := by
  intro L
  induction L with
  | nil => intro x _ hT ho; exact ⟨hT, ho, rfl, fun _ _ => rfl, Nat.le_refl _⟩
  | cons m L ih =>
    intro x hs hT ho
    obtain ⟨h1, h2⟩ := b_row_TI (σ := σ) hn (hs m List.mem_cons_self) hT ho
    obtain ⟨g1, g2, -, k, -, g5, -⟩ := b_row_fr (σ := σ) (m := m) ((x.2.2 (4 + m)).drop (x.1 1 m 6).toNatClampNeg) x
    obtain ⟨q1, q2, q3, q4, q5⟩ := ih _ (fun m' hm => hs m' (List.mem_cons_of_mem _ hm)) h1 h2
    exact ⟨q1, q2, q3.trans g1, fun n hn => (q4 n hn).trans (g2 n hn), by unfold b_rows; omega⟩
def b_rounds (σ : bt_X) (p : Nat) : Nat → bt_X → Int32 × bt_X
  | 0, x => (if (x.2.2 2).length = p then nI 1 else nI 0, x)
  | n + 1, x => if (x.2.2 2).length < p then (if ((b_rows σ x (σ.2.2 0)).2.2 2).length = (x.2.2 2).length then (nI 0, b_rows σ x (σ.2.2 0)) else b_rounds σ p n (b_rows σ x (σ.2.2 0))) else (if (x.2.2 2).length = p then nI 1 else nI 0, x)
/-- all times: whether there is no way round, and the state -/
def b_all (σ x : bt_X) : Int32 × bt_X := b_rounds σ (b_cnt x (σ.2.2 0)) 32 (b_begin σ x)
theorem b_cnt_mem {x : bt_X} {m : Nat} {L : List Nat} (hm : m ∈ L) : (x.2.2 (4 + m)).length ≤ b_cnt x L := by
  induction L with
  | nil => cases hm
  | cons a L ih =>
    unfold b_cnt
    rcases List.mem_cons.mp hm with rfl | hm
    · omega
    · have := ih hm
      omega
theorem b_z1_at {m : Nat} : ∀ (L : List Nat) (x : bt_X), (m ∈ L ∨ x.1 1 m 6 = nI 0) → (b_z1 x L).1 1 m 6 = nI 0 := by
  intro L
  induction L with
  | nil =>
    intro x h
    rcases h with h | h
    · cases h
    · exact h
  | cons a L ih =>
    intro x h
    unfold b_z1
    apply ih
    by_cases c : m = a
    · subst c; exact Or.inr b_gs_at
    · rcases h with h | h
      · rcases List.mem_cons.mp h with h | h
        · exact absurd h c
        · exact Or.inl h
      · exact Or.inr (by rw [b_gs_ne (by omega)]; exact h)
def b_H0 (σ x : bt_X) : Prop := (σ.2.2 0).length ≤ 4 ∧ (σ.2.2 1).length ≤ 8 ∧ (σ.2.2 0).Nodup ∧ b_cnt x (σ.2.2 0) ≤ 32
theorem b_begin_2 {σ x : bt_X} : (b_begin σ x).2 = (bt_lp x 2 []).2 := by
  unfold b_begin
  rw [b_z1_2, b_z0_2]
  rfl
theorem b_begin_TI {σ x : bt_X} (h : b_H0 σ x) : b_TI (b_begin σ x) (σ.2.2 0) ∧ ((b_begin σ x).2.2 2).length + b_left (b_begin σ x) (σ.2.2 0) ≤ 32 := by
  obtain ⟨h1, h2, h3, h4⟩ := h
  have hr : ∀ m : Nat, (b_begin σ x).2.2 (4 + m) = x.2.2 (4 + m) := fun m => by rw [b_begin_2]; exact if_neg (by omega)
  have hz : ∀ m ∈ σ.2.2 0, (b_begin σ x).1 1 m 6 = nI 0 := fun m hm => b_z1_at _ _ (Or.inl hm)
  refine ⟨fun m hm => ⟨0, hz m hm, Nat.zero_le _, by rw [hr]; exact Nat.le_trans (b_cnt_mem hm) h4⟩, ?_⟩
  have e : ∀ L : List Nat, (∀ m ∈ L, m ∈ σ.2.2 0) → b_left (b_begin σ x) L = b_cnt x L := by
    intro L
    induction L with
    | nil => intro _; rfl
    | cons a L ih =>
      intro hs
      unfold b_left b_cnt
      rw [ih (fun m hm => hs m (List.mem_cons_of_mem _ hm))]
      unfold b_tl
      rw [hz a (hs a List.mem_cons_self), hr]
      rfl
  rw [e _ (fun _ hm => hm)]
  have e2 : (b_begin σ x).2.2 2 = [] := by rw [b_begin_2]; exact bt_lp_at
  rw [e2]
  exact Nat.le_trans (Nat.le_of_eq (Nat.zero_add _)) h4
set_option maxRecDepth 100000 in
set_option maxHeartbeats 400000 in
theorem c_rows_l {G : bp_X} {α : bt_A} {σ : bt_X} {Φ : bp_O → bq_O → Prop} {p r b : Int32} (h0 : (σ.2.2 0).length ≤ 4) (hn : (σ.2.2 0).Nodup) (L : List Nat) : ∀ (x : bt_X) (j : Nat), bt_J α σ x → b_TI x (σ.2.2 0) → (x.2.2 2).length + b_left x (σ.2.2 0) ≤ 32 → j ≤ 5 → (σ.2.2 0).drop j = L →
    bq_W G mX4_timeAll 9 69 [(0, .ref (bt_ad α 4 0)), (1, .int p), (2, .int r), (3, .int b)] [] (bt α σ (b_rows σ x L)) Φ → bq_W G mX4_timeAll 9 35 [(0, .ref (bt_ad α 4 0)), (1, .int p), (2, .int r), (3, .int b), (4, .int (nI j))] [] (bt α σ x) Φ := by
  induction L with
  | nil =>
    intro x j J hT ho hj hd kk
    refine bq_iload (i := 4) dX4_timeAll_35 rfl ?_
    refine bq_aload_n (i := 0) dX4_timeAll_37 rfl ?_
    refine bt_get3 (c' := 7) (n := 0) dX4_timeAll_38 fl_X4_12 (by first | assumption | exact J.v3 | exact J.v4 | exact J.v5 | exact J.v6 | exact J.l0 | exact J.l1 | exact J.l2 | exact J.l3 | exact J.row (by assumption) | exact J.ops (by assumption) | exact J.job (by assumption)) ⟨rfl, rfl, rfl⟩ (by decide) ?_
    refine bt_size dX4_timeAll_41 ml_X4_45 (by first | assumption | exact J.v3 | exact J.v4 | exact J.v5 | exact J.v6 | exact J.l0 | exact J.l1 | exact J.l2 | exact J.l3 | exact J.row (by assumption) | exact J.ops (by assumption) | exact J.job (by assumption)) rfl (by decide) (Nat.le_of_ble_eq_true rfl) ?_
    refine bq_icmp_ge (tgt := 69) dX4_timeAll_44 (by decide) (fun c_44 => ?_) (fun z9_ => absurd (show nI (σ.2.2 0).length ≤ nI j from nI_le (b_drop0 hd) (by omega)) z9_)
    refine bq_lvs (lv' := [(0, .ref (bt_ad α 4 0)), (1, .int p), (2, .int r), (3, .int b)]) ⟨rfl, rfl, rfl, rfl, trivial⟩ ?_
    exact kk
  | cons y L ih =>
    intro x j J hT ho hj hd kk
    obtain ⟨hy, hd1, hj1⟩ := b_dropc hd
    have hmem : y ∈ σ.2.2 0 := List.mem_of_getElem? hy
    obtain ⟨t, t1, t2, t3⟩ := hT y hmem
    obtain ⟨g1, g2⟩ := b_row_TI (σ := σ) hn hmem hT ho
    obtain ⟨q1, -⟩ := b_row_fr (σ := σ) (m := y) ((x.2.2 (4 + y)).drop (x.1 1 y 6).toNatClampNeg) x
    have hle : b_tl x y ≤ b_left x (σ.2.2 0) := by
      have key : ∀ M : List Nat, y ∈ M → b_tl x y ≤ b_left x M := by
        intro M
        induction M with
        | nil => intro z; cases z
        | cons a M ih9 =>
          intro z
          unfold b_left
          rcases List.mem_cons.mp z with rfl | z
          · omega
          · have := ih9 z
            omega
      exact key _ hmem
    have e : (x.1 1 y 6).toNatClampNeg = t := by rw [t1]; exact b_toNat_nI (by omega)
    unfold b_tl at hle
    unfold b_rows at kk
    rw [e] at g1 g2 q1 kk hle
    refine bq_iload (i := 4) dX4_timeAll_35 rfl ?_
    refine bq_aload_n (i := 0) dX4_timeAll_37 rfl ?_
    refine bt_get3 (c' := 7) (n := 0) dX4_timeAll_38 fl_X4_12 (by first | assumption | exact J.v3 | exact J.v4 | exact J.v5 | exact J.v6 | exact J.l0 | exact J.l1 | exact J.l2 | exact J.l3 | exact J.row (by assumption) | exact J.ops (by assumption) | exact J.job (by assumption)) ⟨rfl, rfl, rfl⟩ (by decide) ?_
    refine bt_size dX4_timeAll_41 ml_X4_45 (by first | assumption | exact J.v3 | exact J.v4 | exact J.v5 | exact J.v6 | exact J.l0 | exact J.l1 | exact J.l2 | exact J.l3 | exact J.row (by assumption) | exact J.ops (by assumption) | exact J.job (by assumption)) rfl (by decide) (Nat.le_of_ble_eq_true rfl) ?_
    refine bq_icmp_ge (tgt := 69) dX4_timeAll_44 (by decide) (fun z9_ => absurd z9_ (show ¬ nI (σ.2.2 0).length ≤ nI j from nI_ge hj1 (by omega))) (fun c_44 => ?_)
    refine bq_aload_n (i := 0) dX4_timeAll_47 rfl ?_
    refine bq_aload_n (i := 0) dX4_timeAll_48 rfl ?_
    refine bt_get3 (c' := 7) (n := 0) dX4_timeAll_49 fl_X4_12 (by first | assumption | exact J.v3 | exact J.v4 | exact J.v5 | exact J.v6 | exact J.l0 | exact J.l1 | exact J.l2 | exact J.l3 | exact J.row (by assumption) | exact J.ops (by assumption) | exact J.job (by assumption)) ⟨rfl, rfl, rfl⟩ (by decide) ?_
    refine bq_iload (i := 4) dX4_timeAll_52 rfl ?_
    refine bt_geti (j := j) (y := y) (c' := 1) dX4_timeAll_54 ml_X4_72 (by first | assumption | exact J.v3 | exact J.v4 | exact J.v5 | exact J.v6 | exact J.l0 | exact J.l1 | exact J.l2 | exact J.l3 | exact J.row (by assumption) | exact J.ops (by assumption) | exact J.job (by assumption)) rfl rfl hy rfl (by decide) (Nat.le_of_ble_eq_true rfl) (fun v_54 => ?_)
    refine bt_cast (c := 1) dX4_timeAll_57 rfl cl_X4_41 (by first | assumption | exact J.v3 | exact J.v4 | exact J.v5 | exact J.v6 | exact J.l0 | exact J.l1 | exact J.l2 | exact J.l3 | exact J.row (by assumption) | exact J.ops (by assumption) | exact J.job (by assumption)) (by decide) ?_
    refine bt_callVr (c := 4) (i := 0) dX4_timeAll_60 rfl ml_X4_76 (by first | assumption | exact J.v3 | exact J.v4 | exact J.v5 | exact J.v6 | exact J.l0 | exact J.l1 | exact J.l2 | exact J.l3 | exact J.row (by assumption) | exact J.ops (by assumption) | exact J.job (by assumption)) (by decide) (c_row J v_54 (by omega) t1 t2 (by omega)) (by decide) (by decide) (Nat.le_of_ble_eq_true rfl) rfl ?_
    refine bq_iinc dX4_timeAll_63 rfl (by decide) (by first | exact bp_inc _ | rfl) ?_
    refine bq_goto (tgt := 35) dX4_timeAll_66 (by decide) ?_
    refine bq_lvs (lv' := [(0, .ref (bt_ad α 4 0)), (1, .int p), (2, .int r), (3, .int b), (4, .int (nI (j + 1)))]) ⟨rfl, rfl, rfl, rfl, rfl, trivial⟩ ?_
    exact ih _ (j + 1) (J.any q1) g1 g2 (by omega) hd1 kk
set_option maxRecDepth 100000 in
set_option maxHeartbeats 400000 in
theorem c_rounds_l {G : bp_X} {α : bt_A} {σ : bt_X} {p : Nat} (h0 : (σ.2.2 0).length ≤ 4) (hn : (σ.2.2 0).Nodup) (hp : p ≤ 1000) : ∀ (n r : Nat) (x : bt_X), r + n = 32 → bt_J α σ x → b_TI x (σ.2.2 0) → (x.2.2 2).length + b_left x (σ.2.2 0) ≤ 32 →
    bq_W G mX4_timeAll 9 7 [(0, .ref (bt_ad α 4 0)), (1, .int (nI p)), (2, .int (nI r))] [] (bt α σ x) (bq_ret (some (.int (b_rounds σ p n x).1)) (bt α σ (b_rounds σ p n x).2)) := by
  intro n
  induction n with
  | zero =>
    intro r x hr J hT ho
    unfold b_rounds
    simp only []
    refine bq_iload_n (i := 2) dX4_timeAll_7 rfl ?_
    refine bq_bipush (v := (nI 32)) dX4_timeAll_8 (by decide) ?_
    refine bq_icmp_ge (tgt := 88) dX4_timeAll_10 (by decide) (fun c_10 => ?_) (fun z9_ => absurd (show nI 32 ≤ nI r from nI_le (by omega) (by omega)) z9_)
    refine bq_aload_n (i := 0) dX4_timeAll_88 rfl ?_
    refine bt_get3 (c' := 7) (n := 2) dX4_timeAll_89 fl_X4_28 (by first | assumption | exact J.v3 | exact J.v4 | exact J.v5 | exact J.v6 | exact J.l0 | exact J.l1 | exact J.l2 | exact J.l3 | exact J.row (by assumption) | exact J.ops (by assumption) | exact J.job (by assumption)) ⟨rfl, rfl, rfl⟩ (by decide) ?_
    refine bt_size dX4_timeAll_92 ml_X4_45 (by first | assumption | exact J.v3 | exact J.v4 | exact J.v5 | exact J.v6 | exact J.l0 | exact J.l1 | exact J.l2 | exact J.l3 | exact J.row (by assumption) | exact J.ops (by assumption) | exact J.job (by assumption)) rfl (by decide) (Nat.le_of_ble_eq_true rfl) ?_
    refine bq_iload_n (i := 1) dX4_timeAll_95 rfl ?_
    refine bq_icmp_ne (tgt := 103) dX4_timeAll_96 (by decide) (fun c_96 => ?_) (fun c_96 => ?_)
    · rw [if_neg (fun z => c_96 (by rw [show (bt_l σ x 2).length = p from z]))]
      refine bq_iconst (v := (nI 0)) dX4_timeAll_103 (by decide) ?_
      exact bq_iret dX4_timeAll_104 rfl (by first | rfl | decide) bq_ret_i
    · rw [if_pos (show (x.2.2 2).length = p from (nI_eq (by omega) (by omega)).mp c_96)]
      refine bq_iconst (v := (nI 1)) dX4_timeAll_99 (by decide) ?_
      refine bq_goto (tgt := 104) dX4_timeAll_100 (by decide) ?_
      exact bq_iret dX4_timeAll_104 rfl (by first | rfl | decide) bq_ret_i
  | succ n ih =>
    intro r x hr J hT ho
    obtain ⟨g1, g2, g3, g4, g5⟩ := b_rows_TI (σ := σ) hn (σ.2.2 0) x (fun _ hm => hm) hT ho
    unfold b_rounds
    refine bq_iload_n (i := 2) dX4_timeAll_7 rfl ?_
    refine bq_bipush (v := (nI 32)) dX4_timeAll_8 (by decide) ?_
    refine bq_icmp_ge (tgt := 88) dX4_timeAll_10 (by decide) (fun z9_ => absurd z9_ (show ¬ nI 32 ≤ nI r from nI_ge (by omega) (by omega))) (fun c_10 => ?_)
    refine bq_aload_n (i := 0) dX4_timeAll_13 rfl ?_
    refine bt_get3 (c' := 7) (n := 2) dX4_timeAll_14 fl_X4_28 (by first | assumption | exact J.v3 | exact J.v4 | exact J.v5 | exact J.v6 | exact J.l0 | exact J.l1 | exact J.l2 | exact J.l3 | exact J.row (by assumption) | exact J.ops (by assumption) | exact J.job (by assumption)) ⟨rfl, rfl, rfl⟩ (by decide) ?_
    refine bt_size dX4_timeAll_17 ml_X4_45 (by first | assumption | exact J.v3 | exact J.v4 | exact J.v5 | exact J.v6 | exact J.l0 | exact J.l1 | exact J.l2 | exact J.l3 | exact J.row (by assumption) | exact J.ops (by assumption) | exact J.job (by assumption)) rfl (by decide) (Nat.le_of_ble_eq_true rfl) ?_
    refine bq_iload_n (i := 1) dX4_timeAll_20 rfl ?_
    refine bq_icmp_ge (tgt := 88) dX4_timeAll_21 (by decide) (fun c_21 => ?_) (fun c_21 => ?_)
    · rw [if_neg (show ¬ (x.2.2 2).length < p from fun z => absurd ((nI_leI (by omega) (by omega)).mp (show nI p ≤ nI (x.2.2 2).length from c_21)) (by omega))]
      simp only []
      refine bq_aload_n (i := 0) dX4_timeAll_88 rfl ?_
      refine bt_get3 (c' := 7) (n := 2) dX4_timeAll_89 fl_X4_28 (by first | assumption | exact J.v3 | exact J.v4 | exact J.v5 | exact J.v6 | exact J.l0 | exact J.l1 | exact J.l2 | exact J.l3 | exact J.row (by assumption) | exact J.ops (by assumption) | exact J.job (by assumption)) ⟨rfl, rfl, rfl⟩ (by decide) ?_
      refine bt_size dX4_timeAll_92 ml_X4_45 (by first | assumption | exact J.v3 | exact J.v4 | exact J.v5 | exact J.v6 | exact J.l0 | exact J.l1 | exact J.l2 | exact J.l3 | exact J.row (by assumption) | exact J.ops (by assumption) | exact J.job (by assumption)) rfl (by decide) (Nat.le_of_ble_eq_true rfl) ?_
      refine bq_iload_n (i := 1) dX4_timeAll_95 rfl ?_
      refine bq_icmp_ne (tgt := 103) dX4_timeAll_96 (by decide) (fun c_96 => ?_) (fun c_96 => ?_)
      · rw [if_neg (fun z => c_96 (by rw [show (bt_l σ x 2).length = p from z]))]
        refine bq_iconst (v := (nI 0)) dX4_timeAll_103 (by decide) ?_
        exact bq_iret dX4_timeAll_104 rfl (by first | rfl | decide) bq_ret_i
      · rw [if_pos (show (x.2.2 2).length = p from (nI_eq (by omega) (by omega)).mp c_96)]
        refine bq_iconst (v := (nI 1)) dX4_timeAll_99 (by decide) ?_
        refine bq_goto (tgt := 104) dX4_timeAll_100 (by decide) ?_
        exact bq_iret dX4_timeAll_104 rfl (by first | rfl | decide) bq_ret_i
    · rw [if_pos (show (x.2.2 2).length < p from Decidable.byContradiction fun z => c_21 (show nI p ≤ nI (x.2.2 2).length from nI_le (by omega) (by omega)))]
      refine bq_aload_n (i := 0) dX4_timeAll_24 rfl ?_
      refine bt_get3 (c' := 7) (n := 2) dX4_timeAll_25 fl_X4_28 (by first | assumption | exact J.v3 | exact J.v4 | exact J.v5 | exact J.v6 | exact J.l0 | exact J.l1 | exact J.l2 | exact J.l3 | exact J.row (by assumption) | exact J.ops (by assumption) | exact J.job (by assumption)) ⟨rfl, rfl, rfl⟩ (by decide) ?_
      refine bt_size dX4_timeAll_28 ml_X4_45 (by first | assumption | exact J.v3 | exact J.v4 | exact J.v5 | exact J.v6 | exact J.l0 | exact J.l1 | exact J.l2 | exact J.l3 | exact J.row (by assumption) | exact J.ops (by assumption) | exact J.job (by assumption)) rfl (by decide) (Nat.le_of_ble_eq_true rfl) ?_
      refine bq_istore_n (i := 3) dX4_timeAll_31 (by decide) ?_
      refine bq_iconst (v := (nI 0)) dX4_timeAll_32 (by decide) ?_
      refine bq_istore (i := 4) dX4_timeAll_33 (by decide) ?_
      refine bq_lvs (lv' := [(0, .ref (bt_ad α 4 0)), (1, .int (nI p)), (2, .int (nI r)), (3, .int (nI (x.2.2 2).length)), (4, .int (nI 0))]) ⟨rfl, rfl, rfl, rfl, rfl, trivial⟩ ?_
      refine c_rows_l h0 hn _ x 0 J hT ho (by omega) rfl ?_
      refine bq_aload_n (i := 0) dX4_timeAll_69 rfl ?_
      refine bt_get3 (c' := 7) (n := 2) dX4_timeAll_70 fl_X4_28 (by first | assumption | exact J.v3 | exact J.v4 | exact J.v5 | exact J.v6 | exact J.l0 | exact J.l1 | exact J.l2 | exact J.l3 | exact J.row (by assumption) | exact J.ops (by assumption) | exact J.job (by assumption)) ⟨rfl, rfl, rfl⟩ (by decide) ?_
      refine bt_size dX4_timeAll_73 ml_X4_45 (by first | assumption | exact J.v3 | exact J.v4 | exact J.v5 | exact J.v6 | exact J.l0 | exact J.l1 | exact J.l2 | exact J.l3 | exact J.row (by assumption) | exact J.ops (by assumption) | exact J.job (by assumption)) rfl (by decide) (Nat.le_of_ble_eq_true rfl) ?_
      refine bq_iload_n (i := 3) dX4_timeAll_76 rfl ?_
      refine bq_icmp_ne (tgt := 82) dX4_timeAll_77 (by decide) (fun c_77 => ?_) (fun c_77 => ?_)
      · rw [if_neg (show ¬ ((b_rows σ x (σ.2.2 0)).2.2 2).length = (x.2.2 2).length from fun z => c_77 (show nI ((b_rows σ x (σ.2.2 0)).2.2 2).length = nI (x.2.2 2).length by rw [z]))]
        refine bq_iinc dX4_timeAll_82 rfl (by decide) (by first | exact bp_inc _ | rfl) ?_
        refine bq_goto (tgt := 7) dX4_timeAll_85 (by decide) ?_
        refine bq_lvs (lv' := [(0, .ref (bt_ad α 4 0)), (1, .int (nI p)), (2, .int (nI (r + 1)))]) ⟨rfl, rfl, rfl, trivial⟩ ?_
        exact ih (r + 1) _ (by omega) (J.any g3) g1 g2
      · rw [if_pos (show ((b_rows σ x (σ.2.2 0)).2.2 2).length = (x.2.2 2).length from (nI_eq (by omega) (by omega)).mp c_77)]
        refine bq_iconst (v := (nI 0)) dX4_timeAll_80 (by decide) ?_
        exact bq_iret dX4_timeAll_81 rfl (by first | rfl | decide) bq_ret_i
set_option maxRecDepth 100000 in
set_option maxHeartbeats 400000 in
theorem c_all {G : bp_X} {α : bt_A} {σ x : bt_X} (J : bt_J α σ x) (h : b_H0 σ x) : bq_S G mX4_timeAll 9 [.ref (bt_ad α 4 0)] (bt α σ x) (bq_ret (some (.int (b_all σ x).1)) (bt α σ (b_all σ x).2)) := by
  obtain ⟨g1, g2⟩ := b_begin_TI h
  obtain ⟨h1, h2, h3, h4⟩ := h
  refine bq_ofW (by decide +kernel) rfl (Nat.le_of_ble_eq_true rfl) ?_
  refine bq_aload_n (i := 0) dX4_timeAll_0 rfl ?_
  refine bt_callVr (c := 4) (i := 0) dX4_timeAll_1 rfl ml_X4_69 (by first | assumption | exact J.v3 | exact J.v4 | exact J.v5 | exact J.v6 | exact J.l0 | exact J.l1 | exact J.l2 | exact J.l3 | exact J.row (by assumption) | exact J.ops (by assumption) | exact J.job (by assumption)) (by decide) (c_begin J (by omega) (by omega)) (by decide) (by decide) (Nat.le_of_ble_eq_true rfl) rfl ?_
  refine bq_istore_n (i := 1) dX4_timeAll_4 (by decide) ?_
  refine bq_iconst (v := (nI 0)) dX4_timeAll_5 (by decide) ?_
  refine bq_istore_n (i := 2) dX4_timeAll_6 (by decide) ?_
  refine bq_lvs (lv' := [(0, .ref (bt_ad α 4 0)), (1, .int (nI (b_cnt x (σ.2.2 0)))), (2, .int (nI 0))]) ⟨rfl, rfl, rfl, trivial⟩ ?_
  exact c_rounds_l h1 h3 (by omega) 32 0 _ rfl (J.any (by rw [b_begin_2]; rfl)) g1 g2

