/-! ===== the reference: what its methods share ===== -/
def m_J (α : bt_A) : Prop := bt_V α 6 0 ∧ ∀ n : Nat, ((12 ≤ n ∧ n ≤ 16) ∨ (18 ≤ n ∧ n ≤ 30) ∨ (32 ≤ n ∧ n ≤ 34)) → bt_V α 8 n ∧ bt_at α n = bt_arl n
theorem m_J.v6 {α : bt_A} (J : m_J α) : bt_V α 6 0 := J.1
theorem m_J.a12 {α : bt_A} (J : m_J α) : bt_V α 8 12 ∧ bt_at α 12 = (0, 4) := J.2 12 (by decide)
theorem m_J.a13 {α : bt_A} (J : m_J α) : bt_V α 8 13 ∧ bt_at α 13 = (0, 4) := J.2 13 (by decide)
theorem m_J.a14 {α : bt_A} (J : m_J α) : bt_V α 8 14 ∧ bt_at α 14 = (0, 4) := J.2 14 (by decide)
theorem m_J.a15 {α : bt_A} (J : m_J α) : bt_V α 8 15 ∧ bt_at α 15 = (0, 4) := J.2 15 (by decide)
theorem m_J.a16 {α : bt_A} (J : m_J α) : bt_V α 8 16 ∧ bt_at α 16 = (0, 128) := J.2 16 (by decide)
theorem m_J.a18 {α : bt_A} (J : m_J α) : bt_V α 8 18 ∧ bt_at α 18 = (0, 8) := J.2 18 (by decide)
theorem m_J.a19 {α : bt_A} (J : m_J α) : bt_V α 8 19 ∧ bt_at α 19 = (0, 8) := J.2 19 (by decide)
theorem m_J.a20 {α : bt_A} (J : m_J α) : bt_V α 8 20 ∧ bt_at α 20 = (1, 8) := J.2 20 (by decide)
theorem m_J.a21 {α : bt_A} (J : m_J α) : bt_V α 8 21 ∧ bt_at α 21 = (0, 32) := J.2 21 (by decide)
theorem m_J.a22 {α : bt_A} (J : m_J α) : bt_V α 8 22 ∧ bt_at α 22 = (0, 32) := J.2 22 (by decide)
theorem m_J.a23 {α : bt_A} (J : m_J α) : bt_V α 8 23 ∧ bt_at α 23 = (0, 32) := J.2 23 (by decide)
theorem m_J.a24 {α : bt_A} (J : m_J α) : bt_V α 8 24 ∧ bt_at α 24 = (0, 32) := J.2 24 (by decide)
theorem m_J.a25 {α : bt_A} (J : m_J α) : bt_V α 8 25 ∧ bt_at α 25 = (0, 16) := J.2 25 (by decide)
theorem m_J.a26 {α : bt_A} (J : m_J α) : bt_V α 8 26 ∧ bt_at α 26 = (1, 32) := J.2 26 (by decide)
theorem m_J.a27 {α : bt_A} (J : m_J α) : bt_V α 8 27 ∧ bt_at α 27 = (0, 32) := J.2 27 (by decide)
theorem m_J.a28 {α : bt_A} (J : m_J α) : bt_V α 8 28 ∧ bt_at α 28 = (0, 32) := J.2 28 (by decide)
theorem m_J.a29 {α : bt_A} (J : m_J α) : bt_V α 8 29 ∧ bt_at α 29 = (0, 32) := J.2 29 (by decide)
theorem m_J.a30 {α : bt_A} (J : m_J α) : bt_V α 8 30 ∧ bt_at α 30 = (0, 32) := J.2 30 (by decide)
theorem m_J.a32 {α : bt_A} (J : m_J α) : bt_V α 8 32 ∧ bt_at α 32 = (0, 32) := J.2 32 (by decide)
theorem m_J.a33 {α : bt_A} (J : m_J α) : bt_V α 8 33 ∧ bt_at α 33 = (0, 256) := J.2 33 (by decide)
theorem m_J.a34 {α : bt_A} (J : m_J α) : bt_V α 8 34 ∧ bt_at α 34 = (0, 256) := J.2 34 (by decide)
/-- numbers that nothing works out -/
noncomputable def m_32 : Nat := (Classical.choice (⟨⟨32, rfl⟩⟩ : Nonempty {n : Nat // n = 32})).1
noncomputable def m_33 : Nat := (Classical.choice (⟨⟨33, rfl⟩⟩ : Nonempty {n : Nat // n = 33})).1
noncomputable def m_256 : Nat := (Classical.choice (⟨⟨256, rfl⟩⟩ : Nonempty {n : Nat // n = 256})).1
noncomputable def m_8 : Nat := (Classical.choice (⟨⟨8, rfl⟩⟩ : Nonempty {n : Nat // n = 8})).1
theorem m_32_e : m_32 = 32 := (Classical.choice (⟨⟨32, rfl⟩⟩ : Nonempty {n : Nat // n = 32})).2
theorem m_33_e : m_33 = 33 := (Classical.choice (⟨⟨33, rfl⟩⟩ : Nonempty {n : Nat // n = 33})).2
theorem m_256_e : m_256 = 256 := (Classical.choice (⟨⟨256, rfl⟩⟩ : Nonempty {n : Nat // n = 256})).2
theorem m_8_e : m_8 = 8 := (Classical.choice (⟨⟨8, rfl⟩⟩ : Nonempty {n : Nat // n = 8})).2
abbrev nN (v : Int32) : Nat := v.toNatClampNeg
def m_w (B : Nat) (v : Int32) : Prop := v = nI (nN v) ∧ nN v < B
theorem m_wi {B n : Nat} (h : n < B) (hB : n < 2 ^ 31) : m_w B (nI n) := by
  have e : nN (nI n) = n := nI_clamp hB
  exact ⟨by rw [e], by rw [e]; exact h⟩
theorem m_w.e {B : Nat} {v : Int32} (h : m_w B v) : v = nI (nN v) := h.1
theorem m_w.l {B : Nat} {v : Int32} (h : m_w B v) : nN v < B := h.2
def m_wo (v : Int32) : Prop := v = (-1 : Int32) ∨ m_w 32 v
/-- what a number says of an operation: none, or which -/
def m_opt (v : Int32) : Option Nat := if v = (-1 : Int32) then none else some (nN v)
def m_oi : Option Nat → Int32
  | none => (-1 : Int32)
  | some q => nI q
theorem m_nI_ne {q : Nat} (h : q < 2 ^ 31) : ¬ nI q = (-1 : Int32) := fun z => nI_pos h (by rw [z]; decide)
theorem m_opt_i {v : Int32} (h : m_wo v) : v = m_oi (m_opt v) := by
  unfold m_opt
  by_cases e : v = (-1 : Int32)
  · rw [if_pos e]; exact e
  · rw [if_neg e]
    rcases h with h | h
    · exact absurd h e
    · exact h.e
theorem m_opt_l {v : Int32} {q : Nat} (h : m_wo v) (e : m_opt v = some q) : q < 32 := by
  unfold m_opt at e
  by_cases z : v = (-1 : Int32)
  · rw [if_pos z] at e; cases e
  · rw [if_neg z] at e
    cases e
    rcases h with h | h
    · exact absurd h z
    · exact h.l
/-- machines and families of operations -/
def m_K (σ : bt_X) : Prop := ∀ p : Nat, p < 32 → m_w 4 (σ.1 8 21 p) ∧ m_w 4 (σ.1 8 23 p)
/-- links -/
def m_L (x : bt_X) : Prop := ∀ p : Nat, p < 32 → m_wo (x.1 8 27 p) ∧ m_wo (x.1 8 28 p)
/-- rows -/
def m_Rw (x : bt_X) : Prop := ∀ m : Nat, m < 4 → m_w 33 (x.1 8 15 m) ∧ ∀ k : Nat, k < nN (x.1 8 15 m) → m_w 32 (x.1 8 16 (32 * m + k))
def m_nm (σ : bt_X) : Nat := nN (σ.1 6 0 1)
def m_nj (σ : bt_X) : Nat := nN (σ.1 6 0 7)
/-- how many machines and jobs there are, and how many operations each job has -/
def m_Nn (σ : bt_X) : Prop := m_w 5 (σ.1 6 0 1) ∧ m_w 9 (σ.1 6 0 7) ∧ ∀ j : Nat, j < 8 → m_w 5 (σ.1 8 19 j)
def m_mc (σ : bt_X) (p : Nat) : Nat := nN (σ.1 8 21 p)
def m_fm (σ : bt_X) (p : Nat) : Nat := nN (σ.1 8 23 p)
def m_su (σ : bt_X) (f g : Nat) : Int32 := σ.1 8 25 (4 * f + g)
def m_fin (σ x : bt_X) (p : Nat) : Int32 := x.1 8 29 p + σ.1 8 22 p
def m_in (v a b : Int32) : Int32 := if v < a then nI 0 else if b < v then nI 0 else nI 1
theorem m_in_b {v a b : Int32} : narrow .boolean (.int (m_in v a b)) = .int (m_in v a b) := by
  unfold m_in
  split
  · rfl
  · split <;> rfl
/-- is it one of so many? -/
def m_q (a : Option Nat) : Int32 := match a with
  | none => nI 0
  | some _ => nI 1
theorem m_in_ix {n : Nat} {a : Int32} (hn : n < 2 ^ 30) : m_in a (nI 0) (nI n - nI 1) = m_q (b_ix n a) := by
  unfold m_in b_ix
  by_cases c : a < 0
  · rw [if_pos c, if_pos (show a < nI 0 from c)]; rfl
  · rw [if_neg c, if_neg (show ¬ a < nI 0 from c)]
    obtain ⟨j, hj, rfl⟩ := nI_of c
    have e2 : (nI n - nI 1).toInt = (n : Int) - 1 := pk_sub_toInt hn (by decide)
    have e1 : (nI j).toInt = (j : Int) := nI_toInt hj
    by_cases d : nI j < nI n
    · have hjn : j < n := (nI_ltI hj (by omega)).mp d
      rw [if_pos d, if_neg (fun z => by rw [Int32.lt_iff_toInt_lt, e1, e2] at z; omega)]
      rfl
    · have hjn : ¬ j < n := fun z => d ((nI_ltI hj (by omega)).mpr z)
      rw [if_neg d, if_pos (by rw [Int32.lt_iff_toInt_lt, e1, e2]; omega)]
      rfl
set_option maxRecDepth 100000 in
set_option maxHeartbeats 400000 in
theorem n_in {G : bp_X} {w : bq_O} {v a b : Int32} : bq_S G mX6_in 0 [.int v, .int a, .int b] w (bq_ret (some (.int (m_in v a b))) w) := by
  refine bq_ofW (by decide +kernel) rfl (Nat.le_of_ble_eq_true rfl) ?_
  unfold m_in
  refine bq_iload_n (i := 0) dX6_in_0 rfl ?_
  refine bq_iload_n (i := 1) dX6_in_1 rfl ?_
  refine bq_icmp_lt (tgt := 14) dX6_in_2 (by decide) (fun c_2 => ?_) (fun c_2 => ?_)
  · rw [if_pos c_2]
    refine bq_iconst (v := (nI 0)) dX6_in_14 (by decide) ?_
    exact bq_iret dX6_in_15 rfl (by first | rfl | decide) bq_ret_i
  · rw [if_neg c_2]
    refine bq_iload_n (i := 0) dX6_in_5 rfl ?_
    refine bq_iload_n (i := 2) dX6_in_6 rfl ?_
    refine bq_icmp_gt (tgt := 14) dX6_in_7 (by decide) (fun c_7 => ?_) (fun c_7 => ?_)
    · rw [if_pos c_7]
      refine bq_iconst (v := (nI 0)) dX6_in_14 (by decide) ?_
      exact bq_iret dX6_in_15 rfl (by first | rfl | decide) bq_ret_i
    · rw [if_neg c_7]
      refine bq_iconst (v := (nI 1)) dX6_in_10 (by decide) ?_
      refine bq_goto (tgt := 15) dX6_in_11 (by decide) ?_
      exact bq_iret dX6_in_15 rfl (by first | rfl | decide) bq_ret_i
set_option maxRecDepth 100000 in
set_option maxHeartbeats 400000 in
theorem n_isMachine {G : bp_X} {α : bt_A} {σ x : bt_X} {a : Int32} (J : m_J α) (hN : m_Nn σ) : bq_S G mX6_isMachine 1 [.ref (bt_ad α 6 0), .int a] (bt α σ x) (bq_ret (some (.int (m_q (b_ix (m_nm σ) a)))) (bt α σ x)) := by
  have he : m_in a (nI 0) (σ.1 6 0 1 - nI 1) = m_q (b_ix (m_nm σ) a) := by
    rw [hN.1.e, m_in_ix (by have := hN.1.l; omega)]
    rfl
  rw [← he]
  refine bq_ofW (by decide +kernel) rfl (Nat.le_of_ble_eq_true rfl) ?_
  refine bq_iload_n (i := 1) dX6_isMachine_0 rfl ?_
  refine bq_iconst (v := (nI 0)) dX6_isMachine_1 (by decide) ?_
  refine bq_aload_n (i := 0) dX6_isMachine_2 rfl ?_
  refine bt_get4 dX6_isMachine_3 fl_X6_78 (by first | assumption | exact J.v3 | exact J.v4 | exact J.v5 | exact J.v6 | exact J.l0 | exact J.l1 | exact J.l2 | exact J.l3 | exact J.row (by assumption) | exact J.ops (by assumption) | exact J.job (by assumption)) rfl (by decide) ?_
  refine bq_iconst (v := (nI 1)) dX6_isMachine_6 (by decide) ?_
  refine bq_isub dX6_isMachine_7 ?_
  refine bq_callSr dX6_isMachine_8 ml_X6_81 (n_in) (by decide) (by decide) (Nat.le_of_ble_eq_true rfl) rfl ?_
  exact bq_iret dX6_isMachine_11 rfl m_in_b bq_ret_i
set_option maxRecDepth 100000 in
set_option maxHeartbeats 400000 in
theorem n_isJob {G : bp_X} {α : bt_A} {σ x : bt_X} {a : Int32} (J : m_J α) (hN : m_Nn σ) : bq_S G mX6_isJob 1 [.ref (bt_ad α 6 0), .int a] (bt α σ x) (bq_ret (some (.int (m_q (b_ix (m_nj σ) a)))) (bt α σ x)) := by
  have he : m_in a (nI 0) (σ.1 6 0 7 - nI 1) = m_q (b_ix (m_nj σ) a) := by
    rw [hN.2.1.e, m_in_ix (by have := hN.2.1.l; omega)]
    rfl
  rw [← he]
  refine bq_ofW (by decide +kernel) rfl (Nat.le_of_ble_eq_true rfl) ?_
  refine bq_iload_n (i := 1) dX6_isJob_0 rfl ?_
  refine bq_iconst (v := (nI 0)) dX6_isJob_1 (by decide) ?_
  refine bq_aload_n (i := 0) dX6_isJob_2 rfl ?_
  refine bt_get4 dX6_isJob_3 fl_X6_85 (by first | assumption | exact J.v3 | exact J.v4 | exact J.v5 | exact J.v6 | exact J.l0 | exact J.l1 | exact J.l2 | exact J.l3 | exact J.row (by assumption) | exact J.ops (by assumption) | exact J.job (by assumption)) rfl (by decide) ?_
  refine bq_iconst (v := (nI 1)) dX6_isJob_6 (by decide) ?_
  refine bq_isub dX6_isJob_7 ?_
  refine bq_callSr dX6_isJob_8 ml_X6_81 (n_in) (by decide) (by decide) (Nat.le_of_ble_eq_true rfl) rfl ?_
  exact bq_iret dX6_isJob_11 rfl m_in_b bq_ret_i
set_option maxRecDepth 100000 in
set_option maxHeartbeats 400000 in
theorem n_setup {G : bp_X} {α : bt_A} {σ x : bt_X} {f g : Nat} (J : m_J α) (hf : f < 4) (hg : g < 4) : bq_S G mX6_setup 0 [.ref (bt_ad α 6 0), .int (nI f), .int (nI g)] (bt α σ x) (bq_ret (some (.int (m_su σ f g))) (bt α σ x)) := by
  refine bq_ofW (by decide +kernel) rfl (Nat.le_of_ble_eq_true rfl) ?_
  refine bq_aload_n (i := 0) dX6_setup_0 rfl ?_
  refine bt_get3 (c' := 8) (n := 25) dX6_setup_1 fl_X6_47 (by first | assumption | exact J.v3 | exact J.v4 | exact J.v5 | exact J.v6 | exact J.l0 | exact J.l1 | exact J.l2 | exact J.l3 | exact J.row (by assumption) | exact J.ops (by assumption) | exact J.job (by assumption)) ⟨rfl, rfl, rfl⟩ (by decide) ?_
  refine bq_iconst (v := (nI 4)) dX6_setup_4 (by decide) ?_
  refine bq_iload_n (i := 1) dX6_setup_5 rfl ?_
  refine bq_imul dX6_setup_6 ?_
  refine bq_iload_n (i := 2) dX6_setup_7 rfl ?_
  refine bq_iadd dX6_setup_8 ?_
  refine bt_iald4 (n := 25) (j := (4 * f + g)) dX6_setup_9 J.a25 (by rw [pk_mul, nI_add]) (by omega) (by decide) rfl ?_
  exact bq_iret dX6_setup_10 rfl (by first | rfl | decide) bq_ret_i
set_option maxRecDepth 100000 in
set_option maxHeartbeats 400000 in
theorem n_finish {G : bp_X} {α : bt_A} {σ x : bt_X} {p : Nat} (J : m_J α) (hp : p < 32) : bq_S G mX6_finish 0 [.ref (bt_ad α 6 0), .int (nI p)] (bt α σ x) (bq_ret (some (.int (m_fin σ x p))) (bt α σ x)) := by
  refine bq_ofW (by decide +kernel) rfl (Nat.le_of_ble_eq_true rfl) ?_
  refine bq_aload_n (i := 0) dX6_finish_0 rfl ?_
  refine bt_get3 (c' := 8) (n := 29) dX6_finish_1 fl_X6_59 (by first | assumption | exact J.v3 | exact J.v4 | exact J.v5 | exact J.v6 | exact J.l0 | exact J.l1 | exact J.l2 | exact J.l3 | exact J.row (by assumption) | exact J.ops (by assumption) | exact J.job (by assumption)) ⟨rfl, rfl, rfl⟩ (by decide) ?_
  refine bq_iload_n (i := 1) dX6_finish_4 rfl ?_
  refine bt_iald0 (n := 29) (j := p) dX6_finish_5 J.a29 rfl (by omega) (by decide) rfl ?_
  refine bq_aload_n (i := 0) dX6_finish_6 rfl ?_
  refine bt_get3 (c' := 8) (n := 22) dX6_finish_7 fl_X6_38 (by first | assumption | exact J.v3 | exact J.v4 | exact J.v5 | exact J.v6 | exact J.l0 | exact J.l1 | exact J.l2 | exact J.l3 | exact J.row (by assumption) | exact J.ops (by assumption) | exact J.job (by assumption)) ⟨rfl, rfl, rfl⟩ (by decide) ?_
  refine bq_iload_n (i := 1) dX6_finish_10 rfl ?_
  refine bt_iald4 (n := 22) (j := p) dX6_finish_11 J.a22 rfl (by omega) (by decide) rfl ?_
  refine bq_iadd dX6_finish_12 ?_
  exact bq_iret dX6_finish_13 rfl (by first | rfl | decide) bq_ret_i
set_option maxRecDepth 100000 in
set_option maxHeartbeats 400000 in
theorem n_thrown {G : bp_X} {α : bt_A} {σ x : bt_X}  (J : m_J α)  : bq_S G mX6_thrown 0 [.ref (bt_ad α 6 0)] (bt α σ x) (bq_ret (some (.int (x.1 6 0 0))) (bt α σ x)) := by
  refine bq_ofW (by decide +kernel) rfl (Nat.le_of_ble_eq_true rfl) ?_
  refine bq_aload_n (i := 0) dX6_thrown_0 rfl ?_
  refine bt_get0 dX6_thrown_1 fl_X6_74 (by first | assumption | exact J.v3 | exact J.v4 | exact J.v5 | exact J.v6 | exact J.l0 | exact J.l1 | exact J.l2 | exact J.l3 | exact J.row (by assumption) | exact J.ops (by assumption) | exact J.job (by assumption)) rfl (by decide) ?_
  exact bq_iret dX6_thrown_4 rfl (by first | rfl | decide) bq_ret_i
def m_thr (x : bt_X) (v : Int32) : bt_X := bt_gs x 6 0 0 v
set_option maxRecDepth 100000 in
set_option maxHeartbeats 400000 in
theorem n_fails {G : bp_X} {α : bt_A} {σ x : bt_X} {v : Int32} (J : m_J α)  : bq_S G mX6_fails 0 [.ref (bt_ad α 6 0), .int v] (bt α σ x) (bq_ret (some (.int (nI 0))) (bt α σ (m_thr x v))) := by
  refine bq_ofW (by decide +kernel) rfl (Nat.le_of_ble_eq_true rfl) ?_
  refine bq_aload_n (i := 0) dX6_fails_0 rfl ?_
  refine bq_iload_n (i := 1) dX6_fails_1 rfl ?_
  refine bt_put0 dX6_fails_2 fl_X6_74 (by first | assumption | exact J.v3 | exact J.v4 | exact J.v5 | exact J.v6 | exact J.l0 | exact J.l1 | exact J.l2 | exact J.l3 | exact J.row (by assumption) | exact J.ops (by assumption) | exact J.job (by assumption)) rfl (by decide) (by first | rfl | decide) (by first | rfl | decide) ?_
  refine bq_iconst (v := (nI 0)) dX6_fails_5 (by decide) ?_
  exact bq_iret dX6_fails_6 rfl (by first | rfl | decide) bq_ret_i
def m_code (p : Nat) : Int32 := nI (10 * (p / 4) + p % 4)
set_option maxRecDepth 100000 in
set_option maxHeartbeats 400000 in
theorem n_code {G : bp_X} {w : bq_O} {p : Nat} (hp : p < 32) : bq_S G mX6_code 0 [.int (nI p)] w (bq_ret (some (.int (m_code p))) w) := by
  refine bq_ofW (by decide +kernel) rfl (Nat.le_of_ble_eq_true rfl) ?_
  refine bq_bipush (v := (nI 10)) dX6_code_0 (by decide) ?_
  refine bq_iload_n (i := 0) dX6_code_2 rfl ?_
  refine bq_iconst (v := (nI 4)) dX6_code_3 (by decide) ?_
  refine bq_idiv dX6_code_4 (by decide) ?_
  refine bq_imul dX6_code_5 ?_
  refine bq_iload_n (i := 0) dX6_code_6 rfl ?_
  refine bq_iconst (v := (nI 4)) dX6_code_7 (by decide) ?_
  refine bq_irem dX6_code_8 (by decide) ?_
  refine bq_iadd dX6_code_9 ?_
  rw [pk_rem (by omega) (by decide) (by decide), pk_div (by omega) (by decide) (by decide), pk_mul, nI_add]
  exact bq_iret dX6_code_10 rfl (by first | rfl | decide) bq_ret_i
set_option maxRecDepth 100000 in
set_option maxHeartbeats 400000 in
theorem n_isFamily {G : bp_X} {w : bq_O} {v : Int32} : bq_S G mX6_isFamily 1 [.int v] w (bq_ret (some (.int (m_in v (nI 0) (nI 3)))) w) := by
  refine bq_ofW (by decide +kernel) rfl (Nat.le_of_ble_eq_true rfl) ?_
  refine bq_iload_n (i := 0) dX6_isFamily_0 rfl ?_
  refine bq_iconst (v := (nI 0)) dX6_isFamily_1 (by decide) ?_
  refine bq_iconst (v := (nI 3)) dX6_isFamily_2 (by decide) ?_
  refine bq_callSr dX6_isFamily_3 ml_X6_81 (n_in) (by decide) (by decide) (Nat.le_of_ble_eq_true rfl) rfl ?_
  exact bq_iret dX6_isFamily_6 rfl m_in_b bq_ret_i
def m_cnt (s : Int32) : Nat → Nat → Int32 → Int32
  | 0, _, n => n
  | r + 1, k, n => m_cnt s r (k + 1) (n + (s >>> (nI k &&& 31) &&& nI 1))
noncomputable def m_count (s : Int32) : Int32 := m_cnt s m_8 0 (nI 0)
set_option maxRecDepth 100000 in
set_option maxHeartbeats 400000 in
theorem n_count_l {G : bp_X} {w : bq_O} {s : Int32} : ∀ (r k : Nat) (n : Int32), r + k = 8 → bq_W G mX6_count 0 4 [(0, .int s), (1, .int n), (2, .int (nI k))] [] w (bq_ret (some (.int (m_cnt s r k n))) w) := by
  intro r
  induction r with
  | zero =>
    intro k n hk
    unfold m_cnt
    refine bq_iload_n (i := 2) dX6_count_4 rfl ?_
    refine bq_bipush (v := (nI 8)) dX6_count_5 (by decide) ?_
    refine bq_icmp_ge (tgt := 24) dX6_count_7 (by decide) (fun c_7 => ?_) (fun z9_ => absurd (show nI 8 ≤ nI k from nI_le (by omega) (by omega)) z9_)
    refine bq_iload_n (i := 1) dX6_count_24 rfl ?_
    exact bq_iret dX6_count_25 rfl (by first | rfl | decide) bq_ret_i
  | succ r ih =>
    intro k n hk
    unfold m_cnt
    refine bq_iload_n (i := 2) dX6_count_4 rfl ?_
    refine bq_bipush (v := (nI 8)) dX6_count_5 (by decide) ?_
    refine bq_icmp_ge (tgt := 24) dX6_count_7 (by decide) (fun z9_ => absurd z9_ (show ¬ nI 8 ≤ nI k from nI_ge (by omega) (by omega))) (fun c_7 => ?_)
    refine bq_iload_n (i := 1) dX6_count_10 rfl ?_
    refine bq_iload_n (i := 0) dX6_count_11 rfl ?_
    refine bq_iload_n (i := 2) dX6_count_12 rfl ?_
    refine bq_ishr dX6_count_13 ?_
    refine bq_iconst (v := (nI 1)) dX6_count_14 (by decide) ?_
    refine bq_iand dX6_count_15 ?_
    refine bq_iadd dX6_count_16 ?_
    refine bq_istore_n (i := 1) dX6_count_17 (by decide) ?_
    refine bq_iinc dX6_count_18 rfl (by decide) (by first | exact bp_inc _ | rfl) ?_
    refine bq_goto (tgt := 4) dX6_count_21 (by decide) ?_
    refine bq_lvs (lv' := [(0, .int s), (1, .int (n + (s >>> (nI k &&& 31) &&& nI 1))), (2, .int (nI (k + 1)))]) ⟨rfl, rfl, rfl, trivial⟩ ?_
    exact ih (k + 1) _ (by omega)
set_option maxRecDepth 100000 in
set_option maxHeartbeats 400000 in
theorem n_count {G : bp_X} {w : bq_O} {s : Int32} : bq_S G mX6_count 0 [.int s] w (bq_ret (some (.int (m_count s))) w) := by
  refine bq_ofW (by decide +kernel) rfl (Nat.le_of_ble_eq_true rfl) ?_
  refine bq_iconst (v := (nI 0)) dX6_count_0 (by decide) ?_
  refine bq_istore_n (i := 1) dX6_count_1 (by decide) ?_
  refine bq_iconst (v := (nI 0)) dX6_count_2 (by decide) ?_
  refine bq_istore_n (i := 2) dX6_count_3 (by decide) ?_
  refine bq_lvs (lv' := [(0, .int s), (1, .int (nI 0)), (2, .int (nI 0))]) ⟨rfl, rfl, rfl, trivial⟩ ?_
  exact n_count_l m_8 0 (nI 0) m_8_e
def m_z1 (x : bt_X) (p : Nat) : bt_X := bt_gs (bt_gs (bt_gs (bt_gs x 8 26 p (nI 0)) 8 27 p (-1 : Int32)) 8 28 p (-1 : Int32)) 8 29 p (nI 0)
def m_z : Nat → Nat → bt_X → bt_X
  | 0, _, x => x
  | n + 1, p, x => m_z n (p + 1) (m_z1 x p)
/-- one operation's links: the one at place k of machine m, of r -/
def m_lk (x : bt_X) (m k r q : Nat) : bt_X := bt_gs (bt_gs (bt_gs x 8 26 q (nI 1)) 8 27 q (if nI k = 0 then (-1 : Int32) else x.1 8 16 (32 * m + k - 1))) 8 28 q (if nI k = nI r - nI 1 then (-1 : Int32) else x.1 8 16 (32 * m + k + 1))
def m_lkR (m r : Nat) : Nat → Nat → bt_X → bt_X
  | 0, _, x => x
  | n + 1, k, x => m_lkR m r n (k + 1) (m_lk x m k r (nN (x.1 8 16 (32 * m + k))))
def m_lkM : Nat → Nat → bt_X → bt_X
  | 0, _, x => x
  | n + 1, m, x => m_lkM n (m + 1) (m_lkR m (nN (x.1 8 15 m)) (nN (x.1 8 15 m)) 0 x)
noncomputable def m_lays (σ x : bt_X) : bt_X := m_lkM (m_nm σ) 0 (m_z m_32 0 x)
theorem m_z_n {c i k : Nat} (h : ¬ (c = 8 ∧ 26 ≤ i ∧ i ≤ 29)) : ∀ (n p : Nat) (x : bt_X), (m_z n p x).1 c i k = x.1 c i k := by
  intro n
  induction n with
  | zero => intro p x; rfl
  | succ n ih =>
    intro p x
    unfold m_z
    rw [ih]
    unfold m_z1
    rw [b_gs_ne (by omega), b_gs_ne (by omega), b_gs_ne (by omega), b_gs_ne (by omega)]
theorem m_lkR_n {m r c i k' : Nat} (h : ¬ (c = 8 ∧ 26 ≤ i ∧ i ≤ 28)) : ∀ (n k : Nat) (x : bt_X), (m_lkR m r n k x).1 c i k' = x.1 c i k' := by
  intro n
  induction n with
  | zero => intro p x; rfl
  | succ n ih =>
    intro p x
    unfold m_lkR
    rw [ih]
    unfold m_lk
    rw [b_gs_ne (by omega), b_gs_ne (by omega), b_gs_ne (by omega)]
theorem m_lkM_n {c i k' : Nat} (h : ¬ (c = 8 ∧ 26 ≤ i ∧ i ≤ 28)) : ∀ (n m : Nat) (x : bt_X), (m_lkM n m x).1 c i k' = x.1 c i k' := by
  intro n
  induction n with
  | zero => intro p x; rfl
  | succ n ih =>
    intro p x
    unfold m_lkM
    rw [ih, m_lkR_n h]
theorem m_lays_n {σ x : bt_X} {c i k : Nat} (h : ¬ (c = 8 ∧ 26 ≤ i ∧ i ≤ 29)) : (m_lays σ x).1 c i k = x.1 c i k := by
  unfold m_lays
  rw [m_lkM_n (by omega), m_z_n h]
theorem m_Rw.ext {x y : bt_X} (h : m_Rw x) (e : ∀ i k, i = 15 ∨ i = 16 → y.1 8 i k = x.1 8 i k) : m_Rw y := by
  intro m hm
  obtain ⟨h1, h2⟩ := h m hm
  rw [e 15 m (Or.inl rfl)]
  exact ⟨h1, fun k hk => by rw [e 16 _ (Or.inr rfl)]; exact h2 k hk⟩
theorem m_L.z : ∀ (n q : Nat) (x : bt_X), n + q = 32 → (∀ p, p < q → m_wo (x.1 8 27 p) ∧ m_wo (x.1 8 28 p)) → m_L (m_z n q x) := by
  intro n
  induction n with
  | zero => intro q x hq h p hp; exact h p (by omega)
  | succ n ih =>
    intro q x hq h
    unfold m_z
    refine ih (q + 1) _ (by omega) (fun p hp => ?_)
    unfold m_z1
    by_cases e : p = q
    · subst e
      refine ⟨Or.inl ?_, Or.inl ?_⟩
      · rw [b_gs_ne (by omega), b_gs_ne (by omega), b_gs_at]
      · rw [b_gs_ne (by omega), b_gs_at]
    · rw [b_gs_ne (by omega), b_gs_ne (by omega), b_gs_ne (by omega), b_gs_ne (by omega), b_gs_ne (by omega), b_gs_ne (by omega), b_gs_ne (by omega), b_gs_ne (by omega)]
      exact h p (by omega)
theorem m_L.lk {x : bt_X} (h : m_L x) (hR : m_Rw x) {m k r q : Nat} (hm : m < 4) (hr : r = nN (x.1 8 15 m)) (hk : k < r) : m_L (m_lk x m k r q) := by
  subst hr
  have hrl := (hR m hm).1.l
  intro p hp
  obtain ⟨h1, h2⟩ := h p hp
  unfold m_lk
  refine ⟨?_, ?_⟩
  · rw [b_gs_ne (by omega)]
    by_cases e : p = q
    · subst e
      rw [b_gs_at]
      split
      · exact Or.inl rfl
      · rename_i c
        have hk0 : k ≠ 0 := fun z => c (by rw [z]; rfl)
        exact Or.inr (by rw [show 32 * m + k - 1 = 32 * m + (k - 1) by omega]; exact (hR m hm).2 (k - 1) (by omega))
    · rw [b_gs_ne (by omega), b_gs_ne (by omega)]
      exact h1
  · by_cases e : p = q
    · subst e
      rw [b_gs_at]
      split
      · exact Or.inl rfl
      · rename_i c
        have hk0 : k + 1 < nN (x.1 8 15 m) := by
          refine Decidable.byContradiction fun z => c ?_
          rw [pk_sub (by omega)]
          congr 1
          omega
        exact Or.inr ((hR m hm).2 (k + 1) hk0)
    · rw [b_gs_ne (by omega), b_gs_ne (by omega), b_gs_ne (by omega)]
      exact h2
theorem m_L.lkR {m r : Nat} (hm : m < 4) : ∀ (n k : Nat) (x : bt_X), n + k = r → r = nN (x.1 8 15 m) → m_Rw x → m_L x → m_L (m_lkR m r n k x) := by
  intro n
  induction n with
  | zero => intro k x _ _ _ hL; exact hL
  | succ n ih =>
    intro k x hk hr hR hL
    unfold m_lkR
    refine ih (k + 1) _ (by omega) ?_ (hR.ext (fun i k' hi => by unfold m_lk; rw [b_gs_ne (by omega), b_gs_ne (by omega), b_gs_ne (by omega)])) (hL.lk hR hm hr (by omega))
    unfold m_lk
    rw [b_gs_ne (by omega), b_gs_ne (by omega), b_gs_ne (by omega)]
    exact hr
theorem m_L.lkM : ∀ (n m : Nat) (x : bt_X), n + m < 5 → m_Rw x → m_L x → m_L (m_lkM n m x) := by
  intro n
  induction n with
  | zero => intro m x _ _ hL; exact hL
  | succ n ih =>
    intro m x hm hR hL
    unfold m_lkM
    exact ih (m + 1) _ (by omega) (hR.ext (fun i k hi => m_lkR_n (by omega) _ _ _)) (m_L.lkR (by omega) _ _ _ rfl rfl hR hL)
theorem m_lays_L {σ x : bt_X} (hN : m_Nn σ) (hR : m_Rw x) : m_L (m_lays σ x) := by
  unfold m_lays
  exact m_L.lkM _ _ _ (by have := hN.1.l; show nN (σ.1 6 0 1) + 0 < 5; omega) (hR.ext (fun i k hi => m_z_n (by omega) _ _ _)) (m_L.z m_32 0 x m_32_e (fun p hp => by omega))
set_option maxRecDepth 100000 in
set_option maxHeartbeats 400000 in
theorem n_lays_z {G : bp_X} {α : bt_A} {σ : bt_X} (J : m_J α) {Φ : bp_O → bq_O → Prop} : ∀ (n p : Nat) (x : bt_X), n + p = 32 → bq_W G mX6_lays 0 42 [(0, .ref (bt_ad α 6 0))] [] (bt α σ (m_z n p x)) Φ →
    bq_W G mX6_lays 0 2 [(0, .ref (bt_ad α 6 0)), (1, .int (nI p))] [] (bt α σ x) Φ := by
  intro n
  induction n with
  | zero =>
    intro p x hp kk
    unfold m_z at kk
    refine bq_iload_n (i := 1) dX6_lays_2 rfl ?_
    refine bq_bipush (v := (nI 32)) dX6_lays_3 (by decide) ?_
    refine bq_icmp_ge (tgt := 42) dX6_lays_5 (by decide) (fun c_5 => ?_) (fun z9_ => absurd (show nI 32 ≤ nI p from nI_le (by omega) (by omega)) z9_)
    refine bq_lvs (lv' := [(0, .ref (bt_ad α 6 0))]) ⟨rfl, trivial⟩ ?_
    exact kk
  | succ n ih =>
    intro p x hp kk
    unfold m_z at kk
    refine bq_iload_n (i := 1) dX6_lays_2 rfl ?_
    refine bq_bipush (v := (nI 32)) dX6_lays_3 (by decide) ?_
    refine bq_icmp_ge (tgt := 42) dX6_lays_5 (by decide) (fun z9_ => absurd z9_ (show ¬ nI 32 ≤ nI p from nI_ge (by omega) (by omega))) (fun c_5 => ?_)
    refine bq_aload_n (i := 0) dX6_lays_8 rfl ?_
    refine bt_get3 (c' := 8) (n := 26) dX6_lays_9 fl_X6_50 (by first | assumption | exact J.v3 | exact J.v4 | exact J.v5 | exact J.v6 | exact J.l0 | exact J.l1 | exact J.l2 | exact J.l3 | exact J.row (by assumption) | exact J.ops (by assumption) | exact J.job (by assumption)) ⟨rfl, rfl, rfl⟩ (by decide) ?_
    refine bq_iload_n (i := 1) dX6_lays_12 rfl ?_
    refine bq_iconst (v := (nI 0)) dX6_lays_13 (by decide) ?_
    refine bt_zast0 (n := 26) (j := p) dX6_lays_14 J.a26 rfl (by omega) (by decide) rfl (by first | rfl | decide) ?_
    refine bq_aload_n (i := 0) dX6_lays_15 rfl ?_
    refine bt_get3 (c' := 8) (n := 27) dX6_lays_16 fl_X6_53 (by first | assumption | exact J.v3 | exact J.v4 | exact J.v5 | exact J.v6 | exact J.l0 | exact J.l1 | exact J.l2 | exact J.l3 | exact J.row (by assumption) | exact J.ops (by assumption) | exact J.job (by assumption)) ⟨rfl, rfl, rfl⟩ (by decide) ?_
    refine bq_iload_n (i := 1) dX6_lays_19 rfl ?_
    refine bq_iconst (v := (-1 : Int32)) dX6_lays_20 (by decide) ?_
    refine bt_iast0 (n := 27) (j := p) dX6_lays_21 J.a27 rfl (by omega) (by decide) rfl ?_
    refine bq_aload_n (i := 0) dX6_lays_22 rfl ?_
    refine bt_get3 (c' := 8) (n := 28) dX6_lays_23 fl_X6_56 (by first | assumption | exact J.v3 | exact J.v4 | exact J.v5 | exact J.v6 | exact J.l0 | exact J.l1 | exact J.l2 | exact J.l3 | exact J.row (by assumption) | exact J.ops (by assumption) | exact J.job (by assumption)) ⟨rfl, rfl, rfl⟩ (by decide) ?_
    refine bq_iload_n (i := 1) dX6_lays_26 rfl ?_
    refine bq_iconst (v := (-1 : Int32)) dX6_lays_27 (by decide) ?_
    refine bt_iast0 (n := 28) (j := p) dX6_lays_28 J.a28 rfl (by omega) (by decide) rfl ?_
    refine bq_aload_n (i := 0) dX6_lays_29 rfl ?_
    refine bt_get3 (c' := 8) (n := 29) dX6_lays_30 fl_X6_59 (by first | assumption | exact J.v3 | exact J.v4 | exact J.v5 | exact J.v6 | exact J.l0 | exact J.l1 | exact J.l2 | exact J.l3 | exact J.row (by assumption) | exact J.ops (by assumption) | exact J.job (by assumption)) ⟨rfl, rfl, rfl⟩ (by decide) ?_
    refine bq_iload_n (i := 1) dX6_lays_33 rfl ?_
    refine bq_iconst (v := (nI 0)) dX6_lays_34 (by decide) ?_
    refine bt_iast0 (n := 29) (j := p) dX6_lays_35 J.a29 rfl (by omega) (by decide) rfl ?_
    refine bq_iinc dX6_lays_36 rfl (by decide) (by first | exact bp_inc _ | rfl) ?_
    refine bq_goto (tgt := 2) dX6_lays_39 (by decide) ?_
    refine bq_lvs (lv' := [(0, .ref (bt_ad α 6 0)), (1, .int (nI (p + 1)))]) ⟨rfl, rfl, trivial⟩ ?_
    exact ih (p + 1) _ (by omega) kk
set_option maxRecDepth 100000 in
set_option maxHeartbeats 400000 in
theorem n_lays_k {G : bp_X} {α : bt_A} {σ : bt_X} (J : m_J α) {Φ : bp_O → bq_O → Prop} {m r : Nat} (hm : m < 4) : ∀ (n k : Nat) (x : bt_X), n + k = r → r = nN (x.1 8 15 m) → m_Rw x →
    bq_W G mX6_lays 0 151 [(0, .ref (bt_ad α 6 0)), (1, .int (nI m))] [] (bt α σ (m_lkR m r n k x)) Φ →
    bq_W G mX6_lays 0 54 [(0, .ref (bt_ad α 6 0)), (1, .int (nI m)), (2, .int (nI k))] [] (bt α σ x) Φ := by
  intro n
  induction n with
  | zero =>
    intro k x hk hr hR kk
    have hrl := (hR m hm).1.l
    have er : x.1 8 15 m = nI r := by rw [hr]; exact (hR m hm).1.e
    unfold m_lkR at kk
    refine bq_iload_n (i := 2) dX6_lays_54 rfl ?_
    refine bq_aload_n (i := 0) dX6_lays_55 rfl ?_
    refine bt_get3 (c' := 8) (n := 15) dX6_lays_56 fl_X6_19 (by first | assumption | exact J.v3 | exact J.v4 | exact J.v5 | exact J.v6 | exact J.l0 | exact J.l1 | exact J.l2 | exact J.l3 | exact J.row (by assumption) | exact J.ops (by assumption) | exact J.job (by assumption)) ⟨rfl, rfl, rfl⟩ (by decide) ?_
    refine bq_iload_n (i := 1) dX6_lays_59 rfl ?_
    refine bt_iald0 (n := 15) (j := m) dX6_lays_60 J.a15 rfl (by omega) (by decide) rfl ?_
    rw [er]
    refine bq_icmp_ge (tgt := 151) dX6_lays_61 (by decide) (fun c_61 => ?_) (fun z9_ => absurd (show nI r ≤ nI k from nI_le (by omega) (by omega)) z9_)
    refine bq_lvs (lv' := [(0, .ref (bt_ad α 6 0)), (1, .int (nI m))]) ⟨rfl, rfl, trivial⟩ ?_
    exact kk
  | succ n ih =>
    intro k x hk hr hR kk
    have hrl := (hR m hm).1.l
    have er : x.1 8 15 m = nI r := by rw [hr]; exact (hR m hm).1.e
    have hq := (hR m hm).2 k (by omega)
    unfold m_lkR at kk
    obtain ⟨q, hqe⟩ : ∃ q, nN (x.1 8 16 (32 * m + k)) = q := ⟨_, rfl⟩
    have eq : x.1 8 16 (32 * m + k) = nI q := by rw [← hqe]; exact hq.e
    have hql : q < 32 := by rw [← hqe]; exact hq.l
    rw [hqe] at kk
    have hR2 : m_Rw (m_lk x m k r q) := hR.ext (fun i k' hi => by unfold m_lk; rw [b_gs_ne (by omega), b_gs_ne (by omega), b_gs_ne (by omega)])
    have hr2 : r = nN ((m_lk x m k r q).1 8 15 m) := by unfold m_lk; rw [b_gs_ne (by omega), b_gs_ne (by omega), b_gs_ne (by omega)]; exact hr
    have kk2 := ih (k + 1) (m_lk x m k r q) (by omega) hr2 hR2 kk
    unfold m_lk at kk2
    refine bq_iload_n (i := 2) dX6_lays_54 rfl ?_
    refine bq_aload_n (i := 0) dX6_lays_55 rfl ?_
    refine bt_get3 (c' := 8) (n := 15) dX6_lays_56 fl_X6_19 (by first | assumption | exact J.v3 | exact J.v4 | exact J.v5 | exact J.v6 | exact J.l0 | exact J.l1 | exact J.l2 | exact J.l3 | exact J.row (by assumption) | exact J.ops (by assumption) | exact J.job (by assumption)) ⟨rfl, rfl, rfl⟩ (by decide) ?_
    refine bq_iload_n (i := 1) dX6_lays_59 rfl ?_
    refine bt_iald0 (n := 15) (j := m) dX6_lays_60 J.a15 rfl (by omega) (by decide) rfl ?_
    rw [er]
    refine bq_icmp_ge (tgt := 151) dX6_lays_61 (by decide) (fun z9_ => absurd z9_ (show ¬ nI r ≤ nI k from nI_ge (by omega) (by omega))) (fun c_61 => ?_)
    refine bq_aload_n (i := 0) dX6_lays_64 rfl ?_
    refine bt_get3 (c' := 8) (n := 16) dX6_lays_65 fl_X6_22 (by first | assumption | exact J.v3 | exact J.v4 | exact J.v5 | exact J.v6 | exact J.l0 | exact J.l1 | exact J.l2 | exact J.l3 | exact J.row (by assumption) | exact J.ops (by assumption) | exact J.job (by assumption)) ⟨rfl, rfl, rfl⟩ (by decide) ?_
    refine bq_bipush (v := (nI 32)) dX6_lays_68 (by decide) ?_
    refine bq_iload_n (i := 1) dX6_lays_70 rfl ?_
    refine bq_imul dX6_lays_71 ?_
    refine bq_iload_n (i := 2) dX6_lays_72 rfl ?_
    refine bq_iadd dX6_lays_73 ?_
    refine bt_iald0 (n := 16) (j := (32 * m + k)) dX6_lays_74 J.a16 (by rw [pk_mul, nI_add]) (by omega) (by decide) rfl ?_
    rw [eq]
    refine bq_istore_n (i := 3) dX6_lays_75 (by decide) ?_
    refine bq_aload_n (i := 0) dX6_lays_76 rfl ?_
    refine bt_get3 (c' := 8) (n := 26) dX6_lays_77 fl_X6_50 (by first | assumption | exact J.v3 | exact J.v4 | exact J.v5 | exact J.v6 | exact J.l0 | exact J.l1 | exact J.l2 | exact J.l3 | exact J.row (by assumption) | exact J.ops (by assumption) | exact J.job (by assumption)) ⟨rfl, rfl, rfl⟩ (by decide) ?_
    refine bq_iload_n (i := 3) dX6_lays_80 rfl ?_
    refine bq_iconst (v := (nI 1)) dX6_lays_81 (by decide) ?_
    refine bt_zast0 (n := 26) (j := q) dX6_lays_82 J.a26 rfl (by omega) (by decide) rfl (by first | rfl | decide) ?_
    refine bq_aload_n (i := 0) dX6_lays_83 rfl ?_
    refine bt_get3 (c' := 8) (n := 27) dX6_lays_84 fl_X6_53 (by first | assumption | exact J.v3 | exact J.v4 | exact J.v5 | exact J.v6 | exact J.l0 | exact J.l1 | exact J.l2 | exact J.l3 | exact J.row (by assumption) | exact J.ops (by assumption) | exact J.job (by assumption)) ⟨rfl, rfl, rfl⟩ (by decide) ?_
    refine bq_iload_n (i := 3) dX6_lays_87 rfl ?_
    refine bq_iload_n (i := 2) dX6_lays_88 rfl ?_
    refine bq_if_ne (tgt := 96) dX6_lays_89 (by decide) (fun c_89 => ?_) (fun c_89 => ?_)
    · rw [if_neg c_89] at kk2
      have hk0 : k ≠ 0 := fun z => c_89 (by rw [z]; rfl)
      refine bq_aload_n (i := 0) dX6_lays_96 rfl ?_
      refine bt_get3 (c' := 8) (n := 16) dX6_lays_97 fl_X6_22 (by first | assumption | exact J.v3 | exact J.v4 | exact J.v5 | exact J.v6 | exact J.l0 | exact J.l1 | exact J.l2 | exact J.l3 | exact J.row (by assumption) | exact J.ops (by assumption) | exact J.job (by assumption)) ⟨rfl, rfl, rfl⟩ (by decide) ?_
      refine bq_bipush (v := (nI 32)) dX6_lays_100 (by decide) ?_
      refine bq_iload_n (i := 1) dX6_lays_102 rfl ?_
      refine bq_imul dX6_lays_103 ?_
      refine bq_iload_n (i := 2) dX6_lays_104 rfl ?_
      refine bq_iadd dX6_lays_105 ?_
      refine bq_iconst (v := (nI 1)) dX6_lays_106 (by decide) ?_
      refine bq_isub dX6_lays_107 ?_
      refine bt_iald0 (n := 16) (j := (32 * m + k - 1)) dX6_lays_108 J.a16 (by rw [pk_mul, nI_add, pk_sub (by omega)]) (by omega) (by decide) rfl ?_
      rw [b_gs_ne (by omega)]
      refine bt_iast0 (n := 27) (j := q) dX6_lays_109 J.a27 rfl (by omega) (by decide) rfl ?_
      refine bq_aload_n (i := 0) dX6_lays_110 rfl ?_
      refine bt_get3 (c' := 8) (n := 28) dX6_lays_111 fl_X6_56 (by first | assumption | exact J.v3 | exact J.v4 | exact J.v5 | exact J.v6 | exact J.l0 | exact J.l1 | exact J.l2 | exact J.l3 | exact J.row (by assumption) | exact J.ops (by assumption) | exact J.job (by assumption)) ⟨rfl, rfl, rfl⟩ (by decide) ?_
      refine bq_iload_n (i := 3) dX6_lays_114 rfl ?_
      refine bq_iload_n (i := 2) dX6_lays_115 rfl ?_
      refine bq_aload_n (i := 0) dX6_lays_116 rfl ?_
      refine bt_get3 (c' := 8) (n := 15) dX6_lays_117 fl_X6_19 (by first | assumption | exact J.v3 | exact J.v4 | exact J.v5 | exact J.v6 | exact J.l0 | exact J.l1 | exact J.l2 | exact J.l3 | exact J.row (by assumption) | exact J.ops (by assumption) | exact J.job (by assumption)) ⟨rfl, rfl, rfl⟩ (by decide) ?_
      refine bq_iload_n (i := 1) dX6_lays_120 rfl ?_
      refine bt_iald0 (n := 15) (j := m) dX6_lays_121 J.a15 rfl (by omega) (by decide) rfl ?_
      rw [b_gs_ne (by omega), b_gs_ne (by omega), er]
      refine bq_iconst (v := (nI 1)) dX6_lays_122 (by decide) ?_
      refine bq_isub dX6_lays_123 ?_
      refine bq_icmp_ne (tgt := 131) dX6_lays_124 (by decide) (fun c_124 => ?_) (fun c_124 => ?_)
      · rw [if_neg c_124] at kk2
        have hk1 : k + 1 < r := by
          refine Decidable.byContradiction fun z => c_124 ?_
          rw [pk_sub (by omega)]
          congr 1
          omega
        refine bq_aload_n (i := 0) dX6_lays_131 rfl ?_
        refine bt_get3 (c' := 8) (n := 16) dX6_lays_132 fl_X6_22 (by first | assumption | exact J.v3 | exact J.v4 | exact J.v5 | exact J.v6 | exact J.l0 | exact J.l1 | exact J.l2 | exact J.l3 | exact J.row (by assumption) | exact J.ops (by assumption) | exact J.job (by assumption)) ⟨rfl, rfl, rfl⟩ (by decide) ?_
        refine bq_bipush (v := (nI 32)) dX6_lays_135 (by decide) ?_
        refine bq_iload_n (i := 1) dX6_lays_137 rfl ?_
        refine bq_imul dX6_lays_138 ?_
        refine bq_iload_n (i := 2) dX6_lays_139 rfl ?_
        refine bq_iadd dX6_lays_140 ?_
        refine bq_iconst (v := (nI 1)) dX6_lays_141 (by decide) ?_
        refine bq_iadd dX6_lays_142 ?_
        refine bt_iald0 (n := 16) (j := (32 * m + k + 1)) dX6_lays_143 J.a16 (by rw [pk_mul, nI_add, nI_add]) (by omega) (by decide) rfl ?_
        rw [b_gs_ne (by omega), b_gs_ne (by omega)]
        refine bt_iast0 (n := 28) (j := q) dX6_lays_144 J.a28 rfl (by omega) (by decide) rfl ?_
        refine bq_iinc dX6_lays_145 rfl (by decide) (by first | exact bp_inc _ | rfl) ?_
        refine bq_goto (tgt := 54) dX6_lays_148 (by decide) ?_
        refine bq_lvs (lv' := [(0, .ref (bt_ad α 6 0)), (1, .int (nI m)), (2, .int (nI (k + 1)))]) ⟨rfl, rfl, rfl, trivial⟩ ?_
        exact kk2
      · rw [if_pos c_124] at kk2
        refine bq_iconst (v := (-1 : Int32)) dX6_lays_127 (by decide) ?_
        refine bq_goto (tgt := 144) dX6_lays_128 (by decide) ?_
        refine bt_iast0 (n := 28) (j := q) dX6_lays_144 J.a28 rfl (by omega) (by decide) rfl ?_
        refine bq_iinc dX6_lays_145 rfl (by decide) (by first | exact bp_inc _ | rfl) ?_
        refine bq_goto (tgt := 54) dX6_lays_148 (by decide) ?_
        refine bq_lvs (lv' := [(0, .ref (bt_ad α 6 0)), (1, .int (nI m)), (2, .int (nI (k + 1)))]) ⟨rfl, rfl, rfl, trivial⟩ ?_
        exact kk2
    · rw [if_pos c_89] at kk2
      refine bq_iconst (v := (-1 : Int32)) dX6_lays_92 (by decide) ?_
      refine bq_goto (tgt := 109) dX6_lays_93 (by decide) ?_
      refine bt_iast0 (n := 27) (j := q) dX6_lays_109 J.a27 rfl (by omega) (by decide) rfl ?_
      refine bq_aload_n (i := 0) dX6_lays_110 rfl ?_
      refine bt_get3 (c' := 8) (n := 28) dX6_lays_111 fl_X6_56 (by first | assumption | exact J.v3 | exact J.v4 | exact J.v5 | exact J.v6 | exact J.l0 | exact J.l1 | exact J.l2 | exact J.l3 | exact J.row (by assumption) | exact J.ops (by assumption) | exact J.job (by assumption)) ⟨rfl, rfl, rfl⟩ (by decide) ?_
      refine bq_iload_n (i := 3) dX6_lays_114 rfl ?_
      refine bq_iload_n (i := 2) dX6_lays_115 rfl ?_
      refine bq_aload_n (i := 0) dX6_lays_116 rfl ?_
      refine bt_get3 (c' := 8) (n := 15) dX6_lays_117 fl_X6_19 (by first | assumption | exact J.v3 | exact J.v4 | exact J.v5 | exact J.v6 | exact J.l0 | exact J.l1 | exact J.l2 | exact J.l3 | exact J.row (by assumption) | exact J.ops (by assumption) | exact J.job (by assumption)) ⟨rfl, rfl, rfl⟩ (by decide) ?_
      refine bq_iload_n (i := 1) dX6_lays_120 rfl ?_
      refine bt_iald0 (n := 15) (j := m) dX6_lays_121 J.a15 rfl (by omega) (by decide) rfl ?_
      rw [b_gs_ne (by omega), b_gs_ne (by omega), er]
      refine bq_iconst (v := (nI 1)) dX6_lays_122 (by decide) ?_
      refine bq_isub dX6_lays_123 ?_
      refine bq_icmp_ne (tgt := 131) dX6_lays_124 (by decide) (fun c_124 => ?_) (fun c_124 => ?_)
      · rw [if_neg c_124] at kk2
        have hk1 : k + 1 < r := by
          refine Decidable.byContradiction fun z => c_124 ?_
          rw [pk_sub (by omega)]
          congr 1
          omega
        refine bq_aload_n (i := 0) dX6_lays_131 rfl ?_
        refine bt_get3 (c' := 8) (n := 16) dX6_lays_132 fl_X6_22 (by first | assumption | exact J.v3 | exact J.v4 | exact J.v5 | exact J.v6 | exact J.l0 | exact J.l1 | exact J.l2 | exact J.l3 | exact J.row (by assumption) | exact J.ops (by assumption) | exact J.job (by assumption)) ⟨rfl, rfl, rfl⟩ (by decide) ?_
        refine bq_bipush (v := (nI 32)) dX6_lays_135 (by decide) ?_
        refine bq_iload_n (i := 1) dX6_lays_137 rfl ?_
        refine bq_imul dX6_lays_138 ?_
        refine bq_iload_n (i := 2) dX6_lays_139 rfl ?_
        refine bq_iadd dX6_lays_140 ?_
        refine bq_iconst (v := (nI 1)) dX6_lays_141 (by decide) ?_
        refine bq_iadd dX6_lays_142 ?_
        refine bt_iald0 (n := 16) (j := (32 * m + k + 1)) dX6_lays_143 J.a16 (by rw [pk_mul, nI_add, nI_add]) (by omega) (by decide) rfl ?_
        rw [b_gs_ne (by omega), b_gs_ne (by omega)]
        refine bt_iast0 (n := 28) (j := q) dX6_lays_144 J.a28 rfl (by omega) (by decide) rfl ?_
        refine bq_iinc dX6_lays_145 rfl (by decide) (by first | exact bp_inc _ | rfl) ?_
        refine bq_goto (tgt := 54) dX6_lays_148 (by decide) ?_
        refine bq_lvs (lv' := [(0, .ref (bt_ad α 6 0)), (1, .int (nI m)), (2, .int (nI (k + 1)))]) ⟨rfl, rfl, rfl, trivial⟩ ?_
        exact kk2
      · rw [if_pos c_124] at kk2
        refine bq_iconst (v := (-1 : Int32)) dX6_lays_127 (by decide) ?_
        refine bq_goto (tgt := 144) dX6_lays_128 (by decide) ?_
        refine bt_iast0 (n := 28) (j := q) dX6_lays_144 J.a28 rfl (by omega) (by decide) rfl ?_
        refine bq_iinc dX6_lays_145 rfl (by decide) (by first | exact bp_inc _ | rfl) ?_
        refine bq_goto (tgt := 54) dX6_lays_148 (by decide) ?_
        refine bq_lvs (lv' := [(0, .ref (bt_ad α 6 0)), (1, .int (nI m)), (2, .int (nI (k + 1)))]) ⟨rfl, rfl, rfl, trivial⟩ ?_
        exact kk2
set_option maxRecDepth 100000 in
set_option maxHeartbeats 400000 in
theorem n_lays_m {G : bp_X} {α : bt_A} {σ : bt_X} (J : m_J α) (hN : m_Nn σ) {Φ : bp_O → bq_O → Prop} : ∀ (n m : Nat) (x : bt_X), n + m = m_nm σ → m_Rw x →
    bq_W G mX6_lays 0 157 [] [] (bt α σ (m_lkM n m x)) Φ →
    bq_W G mX6_lays 0 44 [(0, .ref (bt_ad α 6 0)), (1, .int (nI m))] [] (bt α σ x) Φ := by
  have hb : m_nm σ < 5 := hN.1.l
  have en : σ.1 6 0 1 = nI (m_nm σ) := hN.1.e
  intro n
  induction n with
  | zero =>
    intro m x hm hR kk
    unfold m_lkM at kk
    refine bq_iload_n (i := 1) dX6_lays_44 rfl ?_
    refine bq_aload_n (i := 0) dX6_lays_45 rfl ?_
    refine bt_get4 dX6_lays_46 fl_X6_78 (by first | assumption | exact J.v3 | exact J.v4 | exact J.v5 | exact J.v6 | exact J.l0 | exact J.l1 | exact J.l2 | exact J.l3 | exact J.row (by assumption) | exact J.ops (by assumption) | exact J.job (by assumption)) rfl (by decide) ?_
    rw [en]
    refine bq_icmp_ge (tgt := 157) dX6_lays_49 (by decide) (fun c_49 => ?_) (fun z9_ => absurd (show nI (m_nm σ) ≤ nI m from nI_le (by omega) (by omega)) z9_)
    refine bq_lvs (lv' := []) trivial ?_
    exact kk
  | succ n ih =>
    intro m x hm hR kk
    unfold m_lkM at kk
    refine bq_iload_n (i := 1) dX6_lays_44 rfl ?_
    refine bq_aload_n (i := 0) dX6_lays_45 rfl ?_
    refine bt_get4 dX6_lays_46 fl_X6_78 (by first | assumption | exact J.v3 | exact J.v4 | exact J.v5 | exact J.v6 | exact J.l0 | exact J.l1 | exact J.l2 | exact J.l3 | exact J.row (by assumption) | exact J.ops (by assumption) | exact J.job (by assumption)) rfl (by decide) ?_
    rw [en]
    refine bq_icmp_ge (tgt := 157) dX6_lays_49 (by decide) (fun z9_ => absurd z9_ (show ¬ nI (m_nm σ) ≤ nI m from nI_ge (by omega) (by omega))) (fun c_49 => ?_)
    refine bq_iconst (v := (nI 0)) dX6_lays_52 (by decide) ?_
    refine bq_istore_n (i := 2) dX6_lays_53 (by decide) ?_
    refine bq_lvs (lv' := [(0, .ref (bt_ad α 6 0)), (1, .int (nI m)), (2, .int (nI 0))]) ⟨rfl, rfl, rfl, trivial⟩ ?_
    refine n_lays_k J (r := nN (x.1 8 15 m)) (by omega) (nN (x.1 8 15 m)) 0 x rfl rfl hR ?_
    refine bq_iinc dX6_lays_151 rfl (by decide) (bp_inc _) ?_
    refine bq_goto (tgt := 44) dX6_lays_154 (by decide) ?_
    refine bq_lvs (lv' := [(0, .ref (bt_ad α 6 0)), (1, .int (nI (m + 1)))]) ⟨rfl, rfl, trivial⟩ ?_
    exact ih (m + 1) _ (by omega) (hR.ext (fun i k hi => m_lkR_n (by omega) _ _ _)) kk
set_option maxRecDepth 100000 in
set_option maxHeartbeats 400000 in
theorem n_lays {G : bp_X} {α : bt_A} {σ x : bt_X} (J : m_J α) (hN : m_Nn σ) (hR : m_Rw x) : bq_S G mX6_lays 0 [.ref (bt_ad α 6 0)] (bt α σ x) (bq_ret none (bt α σ (m_lays σ x))) := by
  refine bq_ofW (by decide +kernel) rfl (Nat.le_of_ble_eq_true rfl) ?_
  refine bq_iconst (v := (nI 0)) dX6_lays_0 (by decide) ?_
  refine bq_istore_n (i := 1) dX6_lays_1 (by decide) ?_
  refine bq_lvs (lv' := [(0, .ref (bt_ad α 6 0)), (1, .int (nI 0))]) ⟨rfl, rfl, trivial⟩ ?_
  refine n_lays_z J m_32 0 x m_32_e ?_
  refine bq_iconst (v := nI 0) dX6_lays_42 (by decide) ?_
  refine bq_istore_n (i := 1) dX6_lays_43 (by decide) ?_
  refine bq_lvs (lv' := [(0, .ref (bt_ad α 6 0)), (1, .int (nI 0))]) ⟨rfl, rfl, trivial⟩ ?_
  refine n_lays_m J hN (m_nm σ) 0 (m_z m_32 0 x) rfl (hR.ext (fun i k hi => m_z_n (by omega) _ _ _)) ?_
  exact bq_vret dX6_lays_157 rfl bq_ret_i
