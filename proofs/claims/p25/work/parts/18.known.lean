/-! ===== what the calls share ===== -/
abbrev b_IO : String := "java/lang/IndexOutOfBoundsException"
abbrev b_IA : String := "java/lang/IllegalArgumentException"
abbrev b_IS : String := "java/lang/IllegalStateException"
def b_nm (σ : bt_X) : Nat := (σ.2.2 0).length
def b_nj (σ : bt_X) : Nat := (σ.2.2 1).length
def b_np (σ : bt_X) (j : Nat) : Nat := (σ.2.2 (8 + j)).length
/-- numbers in their order -/
def b_St (σ : bt_X) : Prop := σ.2.2 0 = List.range (b_nm σ) ∧ b_nm σ ≤ 4 ∧ σ.2.2 1 = List.range (b_nj σ) ∧ b_nj σ ≤ 8 ∧ ∀ j, j < b_nj σ → σ.2.2 (8 + j) = List.range' (4 * j) (b_np σ j) ∧ b_np σ j ≤ 4
/-- the number that an argument is, if there are so many -/
def b_ix (n : Nat) (k : Int32) : Option Nat := if k < 0 then none else if k < nI n then some k.toNatClampNeg else none
theorem b_ix_s {n j : Nat} {k : Int32} (hn : n < 2 ^ 31) (h : b_ix n k = some j) : k = nI j ∧ j < n ∧ ¬ k < 0 ∧ k < nI n := by
  unfold b_ix at h
  by_cases c1 : k < 0
  · rw [if_pos c1] at h; cases h
  · rw [if_neg c1] at h
    by_cases c2 : k < nI n
    · rw [if_pos c2] at h
      cases h
      have e : k = nI k.toNatClampNeg := by
        by_cases z : 0 < k
        · exact b_pos_nat z
        · have : k = 0 := Int32.le_antisymm (Int32.not_lt.mp z) (Int32.not_lt.mp c1)
          subst this
          rfl
      have h31 : k.toNatClampNeg < 2 ^ 31 := by have : k.toInt < 2 ^ 31 := Int32.toInt_lt k; unfold Int32.toNatClampNeg; omega
      refine ⟨e, ?_, c1, c2⟩
      rw [e] at c2
      exact (nI_ltI h31 hn).mp c2
    · rw [if_neg c2] at h; cases h
theorem b_ix_n {n : Nat} {k : Int32} (h : b_ix n k = none) : k < 0 ∨ (¬ k < 0 ∧ ¬ k < nI n) := by
  unfold b_ix at h
  by_cases c1 : k < 0
  · exact Or.inl c1
  · rw [if_neg c1] at h
    by_cases c2 : k < nI n
    · rw [if_pos c2] at h; cases h
    · exact Or.inr ⟨c1, c2⟩
/-- behind a throw -/
abbrev bt_rm (α : bt_A) : bt_A := (α.1, α.2.1, α.2.2.1, α.2.2.2 + 7)
section BTE
variable {α : bt_A} {σ x : bt_X} {c i : Nat} {G : bp_X} {M : bp_M} {d pc : Nat} {lv : List (Nat × Value)} {st : List Value} {Φ : bp_O → bq_O → Prop} {idx : Nat} {M' : bp_M} {d' N : Nat} {As st0 : List Value} {C : String} {T : u_T}
theorem bt_callVe {E : String} {w1 : bq_O} (hd : decode (bp_c M) pc = .ok (.invokevirtual idx, 3)) (hc : bp_cl[c]? = some (C, T, N)) (hm : bp_MV (bp_own_ M) idx M' As.length C) (hV : bt_V α c i) (hc7 : c < 7)
    (hM : bq_S G M' d' (.ref (bt_ad α c i) :: As) (bt α σ x) (bq_end (.inr E) w1)) (hdd : d' + 1 ≤ d) (hn : bp_n M' ≤ 20) (hst : (st.map fun v => v.category).sum ≤ 8) (hst0 : st0 = As.reverse ++ .ref (bt_ad α c i) :: st) (ht : bp_t M = []) (hΦ : Φ (.inr E) w1) : bq_W G M d pc lv st0 (bt α σ x) Φ :=
  bt_callV hd hc hm hV hc7 hM hdd hn hst hst0 (fun v h' hp => by obtain ⟨e, -⟩ := hp; cases e) (fun E' h' hp => by obtain ⟨e, rfl⟩ := hp; cases e; exact bq_out ht hΦ)
end BTE
set_option maxRecDepth 100000 in
set_option maxHeartbeats 400000 in
theorem c_kmS {G : bp_X} {α : bt_A} {σ x : bt_X} {j : Nat} {a : Int32} (J : bt_J α σ x) (hS : b_St σ) (e : b_ix (b_nm σ) a = some j) : bq_S G mX5_knownMachine 6 [.ref (bt_ad α 5 0), .int a] (bt α σ x) (bq_ret (some (.ref (bt_ad α 1 j))) (bt α σ x)) := by
  have hb := hS.2.1
  obtain ⟨h1, hj, h3, h4⟩ := b_ix_s (by omega) e
  refine bq_ofW (by decide +kernel) rfl (Nat.le_of_ble_eq_true rfl) ?_
  refine bq_iload_n (i := 1) dX5_knownMachine_0 rfl ?_
  refine bq_if_lt (tgt := 18) dX5_knownMachine_1 (by decide) (fun z9_ => absurd z9_ h3) (fun c_1 => ?_)
  refine bq_iload_n (i := 1) dX5_knownMachine_4 rfl ?_
  refine bq_aload_n (i := 0) dX5_knownMachine_5 rfl ?_
  refine bt_get3 (c' := 4) (n := 0) dX5_knownMachine_6 fl_X5_12 (by first | assumption | exact J.v3 | exact J.v4 | exact J.v5 | exact J.v6 | exact J.l0 | exact J.l1 | exact J.l2 | exact J.l3 | exact J.row (by assumption) | exact J.ops (by assumption) | exact J.job (by assumption)) ⟨rfl, rfl, rfl⟩ (by decide) ?_
  refine bt_get3 (c' := 7) (n := 0) dX5_knownMachine_9 fl_X5_16 (by first | assumption | exact J.v3 | exact J.v4 | exact J.v5 | exact J.v6 | exact J.l0 | exact J.l1 | exact J.l2 | exact J.l3 | exact J.row (by assumption) | exact J.ops (by assumption) | exact J.job (by assumption)) ⟨rfl, rfl, rfl⟩ (by decide) ?_
  refine bt_size dX5_knownMachine_12 ml_X5_20 (by first | assumption | exact J.v3 | exact J.v4 | exact J.v5 | exact J.v6 | exact J.l0 | exact J.l1 | exact J.l2 | exact J.l3 | exact J.row (by assumption) | exact J.ops (by assumption) | exact J.job (by assumption)) rfl (by decide) (Nat.le_of_ble_eq_true rfl) ?_
  refine bq_icmp_lt (tgt := 28) dX5_knownMachine_15 (by decide) (fun c_15 => ?_) (fun z9_ => absurd h4 z9_)
  refine bq_aload_n (i := 0) dX5_knownMachine_28 rfl ?_
  refine bt_get3 (c' := 4) (n := 0) dX5_knownMachine_29 fl_X5_12 (by first | assumption | exact J.v3 | exact J.v4 | exact J.v5 | exact J.v6 | exact J.l0 | exact J.l1 | exact J.l2 | exact J.l3 | exact J.row (by assumption) | exact J.ops (by assumption) | exact J.job (by assumption)) ⟨rfl, rfl, rfl⟩ (by decide) ?_
  refine bt_get3 (c' := 7) (n := 0) dX5_knownMachine_32 fl_X5_16 (by first | assumption | exact J.v3 | exact J.v4 | exact J.v5 | exact J.v6 | exact J.l0 | exact J.l1 | exact J.l2 | exact J.l3 | exact J.row (by assumption) | exact J.ops (by assumption) | exact J.job (by assumption)) ⟨rfl, rfl, rfl⟩ (by decide) ?_
  refine bq_iload_n (i := 1) dX5_knownMachine_35 rfl ?_
  refine bt_geti (j := j) (y := j) (c' := 1) dX5_knownMachine_36 ml_X5_143 (by first | assumption | exact J.v3 | exact J.v4 | exact J.v5 | exact J.v6 | exact J.l0 | exact J.l1 | exact J.l2 | exact J.l3 | exact J.row (by assumption) | exact J.ops (by assumption) | exact J.job (by assumption)) rfl h1 (show (σ.2.2 0)[j]? = some j by rw [hS.1, List.getElem?_range hj]) rfl (by decide) (Nat.le_of_ble_eq_true rfl) (fun v_36 => ?_)
  refine bt_cast (c := 1) dX5_knownMachine_39 rfl cl_X5_33 (by first | assumption | exact J.v3 | exact J.v4 | exact J.v5 | exact J.v6 | exact J.l0 | exact J.l1 | exact J.l2 | exact J.l3 | exact J.row (by assumption) | exact J.ops (by assumption) | exact J.job (by assumption)) (by decide) ?_
  exact bq_aret dX5_knownMachine_42 rfl bq_ret_i
set_option maxRecDepth 100000 in
set_option maxHeartbeats 400000 in
theorem c_kmN {G : bp_X} {α : bt_A} {σ x : bt_X} {a : Int32} (J : bt_J α σ x) (e : b_ix (b_nm σ) a = none) (hroom : bt_us α + 7 ≤ bp_max) : bq_S G mX5_knownMachine 6 [.ref (bt_ad α 5 0), .int a] (bt α σ x) (bq_end (.inr b_IO) (bt (bt_rm α) σ x)) := by
  refine bq_ofW (by decide +kernel) rfl (Nat.le_of_ble_eq_true rfl) ?_
  rcases b_ix_n e with h | ⟨h1, h2⟩
  · refine bq_iload_n (i := 1) dX5_knownMachine_0 rfl ?_
    refine bq_if_lt (tgt := 18) dX5_knownMachine_1 (by decide) (fun c_1 => ?_) (fun z9_ => absurd h z9_)
    exact bq_throw dX5_knownMachine_18 dX5_knownMachine_21 dX5_knownMachine_22 dX5_knownMachine_24 dX5_knownMachine_27 tw_123_228_127 rfl (by decide) (Nat.le_of_ble_eq_true rfl) hroom ⟨rfl, rfl⟩
  · refine bq_iload_n (i := 1) dX5_knownMachine_0 rfl ?_
    refine bq_if_lt (tgt := 18) dX5_knownMachine_1 (by decide) (fun z9_ => absurd z9_ h1) (fun c_1 => ?_)
    refine bq_iload_n (i := 1) dX5_knownMachine_4 rfl ?_
    refine bq_aload_n (i := 0) dX5_knownMachine_5 rfl ?_
    refine bt_get3 (c' := 4) (n := 0) dX5_knownMachine_6 fl_X5_12 (by first | assumption | exact J.v3 | exact J.v4 | exact J.v5 | exact J.v6 | exact J.l0 | exact J.l1 | exact J.l2 | exact J.l3 | exact J.row (by assumption) | exact J.ops (by assumption) | exact J.job (by assumption)) ⟨rfl, rfl, rfl⟩ (by decide) ?_
    refine bt_get3 (c' := 7) (n := 0) dX5_knownMachine_9 fl_X5_16 (by first | assumption | exact J.v3 | exact J.v4 | exact J.v5 | exact J.v6 | exact J.l0 | exact J.l1 | exact J.l2 | exact J.l3 | exact J.row (by assumption) | exact J.ops (by assumption) | exact J.job (by assumption)) ⟨rfl, rfl, rfl⟩ (by decide) ?_
    refine bt_size dX5_knownMachine_12 ml_X5_20 (by first | assumption | exact J.v3 | exact J.v4 | exact J.v5 | exact J.v6 | exact J.l0 | exact J.l1 | exact J.l2 | exact J.l3 | exact J.row (by assumption) | exact J.ops (by assumption) | exact J.job (by assumption)) rfl (by decide) (Nat.le_of_ble_eq_true rfl) ?_
    refine bq_icmp_lt (tgt := 28) dX5_knownMachine_15 (by decide) (fun z9_ => absurd z9_ h2) (fun c_15 => ?_)
    exact bq_throw dX5_knownMachine_18 dX5_knownMachine_21 dX5_knownMachine_22 dX5_knownMachine_24 dX5_knownMachine_27 tw_123_228_127 rfl (by decide) (Nat.le_of_ble_eq_true rfl) hroom ⟨rfl, rfl⟩
set_option maxRecDepth 100000 in
set_option maxHeartbeats 400000 in
theorem c_kjS {G : bp_X} {α : bt_A} {σ x : bt_X} {j : Nat} {a : Int32} (J : bt_J α σ x) (hS : b_St σ) (e : b_ix (b_nj σ) a = some j) : bq_S G mX5_knownJob 6 [.ref (bt_ad α 5 0), .int a] (bt α σ x) (bq_ret (some (.ref (bt_ad α 0 j))) (bt α σ x)) := by
  have hb := hS.2.2.2.1
  obtain ⟨h1, hj, h3, h4⟩ := b_ix_s (by omega) e
  refine bq_ofW (by decide +kernel) rfl (Nat.le_of_ble_eq_true rfl) ?_
  refine bq_iload_n (i := 1) dX5_knownJob_0 rfl ?_
  refine bq_if_lt (tgt := 18) dX5_knownJob_1 (by decide) (fun z9_ => absurd z9_ h3) (fun c_1 => ?_)
  refine bq_iload_n (i := 1) dX5_knownJob_4 rfl ?_
  refine bq_aload_n (i := 0) dX5_knownJob_5 rfl ?_
  refine bt_get3 (c' := 4) (n := 0) dX5_knownJob_6 fl_X5_12 (by first | assumption | exact J.v3 | exact J.v4 | exact J.v5 | exact J.v6 | exact J.l0 | exact J.l1 | exact J.l2 | exact J.l3 | exact J.row (by assumption) | exact J.ops (by assumption) | exact J.job (by assumption)) ⟨rfl, rfl, rfl⟩ (by decide) ?_
  refine bt_get3 (c' := 7) (n := 1) dX5_knownJob_9 fl_X5_81 (by first | assumption | exact J.v3 | exact J.v4 | exact J.v5 | exact J.v6 | exact J.l0 | exact J.l1 | exact J.l2 | exact J.l3 | exact J.row (by assumption) | exact J.ops (by assumption) | exact J.job (by assumption)) ⟨rfl, rfl, rfl⟩ (by decide) ?_
  refine bt_size dX5_knownJob_12 ml_X5_20 (by first | assumption | exact J.v3 | exact J.v4 | exact J.v5 | exact J.v6 | exact J.l0 | exact J.l1 | exact J.l2 | exact J.l3 | exact J.row (by assumption) | exact J.ops (by assumption) | exact J.job (by assumption)) rfl (by decide) (Nat.le_of_ble_eq_true rfl) ?_
  refine bq_icmp_lt (tgt := 28) dX5_knownJob_15 (by decide) (fun c_15 => ?_) (fun z9_ => absurd h4 z9_)
  refine bq_aload_n (i := 0) dX5_knownJob_28 rfl ?_
  refine bt_get3 (c' := 4) (n := 0) dX5_knownJob_29 fl_X5_12 (by first | assumption | exact J.v3 | exact J.v4 | exact J.v5 | exact J.v6 | exact J.l0 | exact J.l1 | exact J.l2 | exact J.l3 | exact J.row (by assumption) | exact J.ops (by assumption) | exact J.job (by assumption)) ⟨rfl, rfl, rfl⟩ (by decide) ?_
  refine bt_get3 (c' := 7) (n := 1) dX5_knownJob_32 fl_X5_81 (by first | assumption | exact J.v3 | exact J.v4 | exact J.v5 | exact J.v6 | exact J.l0 | exact J.l1 | exact J.l2 | exact J.l3 | exact J.row (by assumption) | exact J.ops (by assumption) | exact J.job (by assumption)) ⟨rfl, rfl, rfl⟩ (by decide) ?_
  refine bq_iload_n (i := 1) dX5_knownJob_35 rfl ?_
  refine bt_geti (j := j) (y := j) (c' := 0) dX5_knownJob_36 ml_X5_143 (by first | assumption | exact J.v3 | exact J.v4 | exact J.v5 | exact J.v6 | exact J.l0 | exact J.l1 | exact J.l2 | exact J.l3 | exact J.row (by assumption) | exact J.ops (by assumption) | exact J.job (by assumption)) rfl h1 (show (σ.2.2 1)[j]? = some j by rw [hS.2.2.1, List.getElem?_range hj]) rfl (by decide) (Nat.le_of_ble_eq_true rfl) (fun v_36 => ?_)
  refine bt_cast (c := 0) dX5_knownJob_39 rfl cl_X5_86 (by first | assumption | exact J.v3 | exact J.v4 | exact J.v5 | exact J.v6 | exact J.l0 | exact J.l1 | exact J.l2 | exact J.l3 | exact J.row (by assumption) | exact J.ops (by assumption) | exact J.job (by assumption)) (by decide) ?_
  exact bq_aret dX5_knownJob_42 rfl bq_ret_i
set_option maxRecDepth 100000 in
set_option maxHeartbeats 400000 in
theorem c_kjN {G : bp_X} {α : bt_A} {σ x : bt_X} {a : Int32} (J : bt_J α σ x) (e : b_ix (b_nj σ) a = none) (hroom : bt_us α + 7 ≤ bp_max) : bq_S G mX5_knownJob 6 [.ref (bt_ad α 5 0), .int a] (bt α σ x) (bq_end (.inr b_IO) (bt (bt_rm α) σ x)) := by
  refine bq_ofW (by decide +kernel) rfl (Nat.le_of_ble_eq_true rfl) ?_
  rcases b_ix_n e with h | ⟨h1, h2⟩
  · refine bq_iload_n (i := 1) dX5_knownJob_0 rfl ?_
    refine bq_if_lt (tgt := 18) dX5_knownJob_1 (by decide) (fun c_1 => ?_) (fun z9_ => absurd h z9_)
    exact bq_throw dX5_knownJob_18 dX5_knownJob_21 dX5_knownJob_22 dX5_knownJob_24 dX5_knownJob_27 tw_123_230_127 rfl (by decide) (Nat.le_of_ble_eq_true rfl) hroom ⟨rfl, rfl⟩
  · refine bq_iload_n (i := 1) dX5_knownJob_0 rfl ?_
    refine bq_if_lt (tgt := 18) dX5_knownJob_1 (by decide) (fun z9_ => absurd z9_ h1) (fun c_1 => ?_)
    refine bq_iload_n (i := 1) dX5_knownJob_4 rfl ?_
    refine bq_aload_n (i := 0) dX5_knownJob_5 rfl ?_
    refine bt_get3 (c' := 4) (n := 0) dX5_knownJob_6 fl_X5_12 (by first | assumption | exact J.v3 | exact J.v4 | exact J.v5 | exact J.v6 | exact J.l0 | exact J.l1 | exact J.l2 | exact J.l3 | exact J.row (by assumption) | exact J.ops (by assumption) | exact J.job (by assumption)) ⟨rfl, rfl, rfl⟩ (by decide) ?_
    refine bt_get3 (c' := 7) (n := 1) dX5_knownJob_9 fl_X5_81 (by first | assumption | exact J.v3 | exact J.v4 | exact J.v5 | exact J.v6 | exact J.l0 | exact J.l1 | exact J.l2 | exact J.l3 | exact J.row (by assumption) | exact J.ops (by assumption) | exact J.job (by assumption)) ⟨rfl, rfl, rfl⟩ (by decide) ?_
    refine bt_size dX5_knownJob_12 ml_X5_20 (by first | assumption | exact J.v3 | exact J.v4 | exact J.v5 | exact J.v6 | exact J.l0 | exact J.l1 | exact J.l2 | exact J.l3 | exact J.row (by assumption) | exact J.ops (by assumption) | exact J.job (by assumption)) rfl (by decide) (Nat.le_of_ble_eq_true rfl) ?_
    refine bq_icmp_lt (tgt := 28) dX5_knownJob_15 (by decide) (fun z9_ => absurd z9_ h2) (fun c_15 => ?_)
    exact bq_throw dX5_knownJob_18 dX5_knownJob_21 dX5_knownJob_22 dX5_knownJob_24 dX5_knownJob_27 tw_123_230_127 rfl (by decide) (Nat.le_of_ble_eq_true rfl) hroom ⟨rfl, rfl⟩
/-- a placed job, a job that waits, an operation of a placed job: or what is thrown -/
def b_pj (σ : bt_X) (a : Int32) : Nat ⊕ String := match b_ix (b_nj σ) a with
  | none => .inr b_IO
  | some j => if σ.1 0 j 3 = 0 then .inr b_IS else .inl j
def b_wj (σ : bt_X) (a : Int32) : Nat ⊕ String := match b_ix (b_nj σ) a with
  | none => .inr b_IO
  | some j => if σ.1 0 j 3 = 0 then (if b_np σ j = 0 then .inr b_IS else .inl j) else .inr b_IS
def b_po (σ : bt_X) (a b : Int32) : Nat ⊕ String := match b_ix (b_nj σ) a with
  | none => .inr b_IO
  | some j => match b_ix (b_np σ j) b with
    | none => .inr b_IO
    | some k => if σ.1 0 j 3 = 0 then .inr b_IS else .inl (4 * j + k)
theorem bt_J.jobs {α : bt_A} {σ x : bt_X} (J : bt_J α σ x) (hS : b_St σ) {G : bp_X} {M : bp_M} {d pc : Nat} {lv : List (Nat × Value)} {st : List Value} {Φ : bp_O → bq_O → Prop}
    (kk : (∀ j, j < b_nj σ → bt_V α 0 j) → bq_W G M d pc lv st (bt α σ x) Φ) : bq_W G M d pc lv st (bt α σ x) Φ :=
  bt_els J.l1 (fun g => kk (fun j hj => g j (by show j ∈ σ.2.2 1; rw [hS.2.2.1]; exact List.mem_range.mpr hj)))
set_option maxRecDepth 100000 in
set_option maxHeartbeats 400000 in
theorem c_pjS {G : bp_X} {α : bt_A} {σ x : bt_X} {r : Nat} {a : Int32} (J : bt_J α σ x) (hS : b_St σ) (hF : b_pj σ a = .inl r) : bq_S G mX5_placedJob 7 [.ref (bt_ad α 5 0), .int a] (bt α σ x) (bq_ret (some (.ref (bt_ad α 0 r))) (bt α σ x)) := by
  refine bq_ofW (by decide +kernel) rfl (Nat.le_of_ble_eq_true rfl) ?_
  refine J.jobs hS (fun hjv => ?_)
  unfold b_pj at hF
  have hb := hS.2.2.2.1
  cases e1 : b_ix (b_nj σ) a with
  | none => rw [e1] at hF; cases hF
  | some j =>
    rw [e1] at hF
    simp only [] at hF
    have hV0 := hjv j (b_ix_s (by omega) e1).2.1
    by_cases c : σ.1 0 j 3 = 0
    · rw [if_pos c] at hF; cases hF
    · rw [if_neg c] at hF
      obtain rfl := Sum.inl.inj hF
      refine bq_aload_n (i := 0) dX5_placedJob_0 rfl ?_
      refine bq_iload_n (i := 1) dX5_placedJob_1 rfl ?_
      refine bt_callVr (c := 5) (i := 0) dX5_placedJob_2 rfl ml_X5_91 (by first | assumption | exact J.v3 | exact J.v4 | exact J.v5 | exact J.v6 | exact J.l0 | exact J.l1 | exact J.l2 | exact J.l3 | exact J.row (by assumption) | exact J.ops (by assumption) | exact J.job (by assumption)) (by decide) (c_kjS J hS e1) (by decide) (by decide) (Nat.le_of_ble_eq_true rfl) rfl ?_
      refine bq_astore_n (i := 2) dX5_placedJob_5 (by decide) ?_
      refine bq_aload_n (i := 2) dX5_placedJob_6 rfl ?_
      refine bt_get4 dX5_placedJob_7 fl_X5_106 (by first | assumption | exact J.v3 | exact J.v4 | exact J.v5 | exact J.v6 | exact J.l0 | exact J.l1 | exact J.l2 | exact J.l3 | exact J.row (by assumption) | exact J.ops (by assumption) | exact J.job (by assumption)) rfl (by decide) ?_
      refine bq_if_ne (tgt := 23) dX5_placedJob_10 (by decide) (fun c_10 => ?_) (fun z9_ => absurd z9_ c)
      refine bq_aload_n (i := 2) dX5_placedJob_23 rfl ?_
      exact bq_aret dX5_placedJob_24 rfl bq_ret_i
set_option maxRecDepth 100000 in
set_option maxHeartbeats 400000 in
theorem c_pjN {G : bp_X} {α : bt_A} {σ x : bt_X} {E : String} {a : Int32} (J : bt_J α σ x) (hS : b_St σ) (hF : b_pj σ a = .inr E) (hroom : bt_us α + 7 ≤ bp_max) : bq_S G mX5_placedJob 7 [.ref (bt_ad α 5 0), .int a] (bt α σ x) (bq_end (.inr E) (bt (bt_rm α) σ x)) := by
  refine bq_ofW (by decide +kernel) rfl (Nat.le_of_ble_eq_true rfl) ?_
  refine J.jobs hS (fun hjv => ?_)
  unfold b_pj at hF
  have hb := hS.2.2.2.1
  cases e1 : b_ix (b_nj σ) a with
  | none =>
    rw [e1] at hF
    simp only [] at hF
    refine bq_aload_n (i := 0) dX5_placedJob_0 rfl ?_
    refine bq_iload_n (i := 1) dX5_placedJob_1 rfl ?_
    exact bt_callVe (c := 5) (i := 0) dX5_placedJob_2 rfl ml_X5_91 J.v5 (by decide) (c_kjN J e1 hroom) (by decide) (by decide) (Nat.le_of_ble_eq_true rfl) rfl rfl (by cases hF; exact ⟨rfl, rfl⟩)
  | some j =>
    rw [e1] at hF
    simp only [] at hF
    have hV0 := hjv j (b_ix_s (by omega) e1).2.1
    by_cases c : σ.1 0 j 3 = 0
    · rw [if_pos c] at hF
      refine bq_aload_n (i := 0) dX5_placedJob_0 rfl ?_
      refine bq_iload_n (i := 1) dX5_placedJob_1 rfl ?_
      refine bt_callVr (c := 5) (i := 0) dX5_placedJob_2 rfl ml_X5_91 (by first | assumption | exact J.v3 | exact J.v4 | exact J.v5 | exact J.v6 | exact J.l0 | exact J.l1 | exact J.l2 | exact J.l3 | exact J.row (by assumption) | exact J.ops (by assumption) | exact J.job (by assumption)) (by decide) (c_kjS J hS e1) (by decide) (by decide) (Nat.le_of_ble_eq_true rfl) rfl ?_
      refine bq_astore_n (i := 2) dX5_placedJob_5 (by decide) ?_
      refine bq_aload_n (i := 2) dX5_placedJob_6 rfl ?_
      refine bt_get4 dX5_placedJob_7 fl_X5_106 (by first | assumption | exact J.v3 | exact J.v4 | exact J.v5 | exact J.v6 | exact J.l0 | exact J.l1 | exact J.l2 | exact J.l3 | exact J.row (by assumption) | exact J.ops (by assumption) | exact J.job (by assumption)) rfl (by decide) ?_
      refine bq_if_ne (tgt := 23) dX5_placedJob_10 (by decide) (fun z9_ => absurd c z9_) (fun c_10 => ?_)
      exact bq_throw dX5_placedJob_13 dX5_placedJob_16 dX5_placedJob_17 dX5_placedJob_19 dX5_placedJob_22 tw_26_232_30 rfl (by decide) (Nat.le_of_ble_eq_true rfl) hroom (by cases hF; exact ⟨rfl, rfl⟩)
    · rw [if_neg c] at hF; cases hF
set_option maxRecDepth 100000 in
set_option maxHeartbeats 400000 in
theorem c_wjS {G : bp_X} {α : bt_A} {σ x : bt_X} {r : Nat} {a : Int32} (J : bt_J α σ x) (hS : b_St σ) (hF : b_wj σ a = .inl r) : bq_S G mX5_waitingJob 7 [.ref (bt_ad α 5 0), .int a] (bt α σ x) (bq_ret (some (.ref (bt_ad α 0 r))) (bt α σ x)) := by
  refine bq_ofW (by decide +kernel) rfl (Nat.le_of_ble_eq_true rfl) ?_
  refine J.jobs hS (fun hjv => ?_)
  unfold b_wj at hF
  have hb := hS.2.2.2.1
  cases e1 : b_ix (b_nj σ) a with
  | none => rw [e1] at hF; cases hF
  | some j =>
    rw [e1] at hF
    simp only [] at hF
    have hj := (b_ix_s (by omega) e1).2.1
    have hV0 := hjv j hj
    have hp4 := (hS.2.2.2.2 j hj).2
    by_cases c : σ.1 0 j 3 = 0
    · rw [if_pos c] at hF
      by_cases c2 : b_np σ j = 0
      · rw [if_pos c2] at hF; cases hF
      · rw [if_neg c2] at hF
        obtain rfl := Sum.inl.inj hF
        refine bq_aload_n (i := 0) dX5_waitingJob_0 rfl ?_
        refine bq_iload_n (i := 1) dX5_waitingJob_1 rfl ?_
        refine bt_callVr (c := 5) (i := 0) dX5_waitingJob_2 rfl ml_X5_91 (by first | assumption | exact J.v3 | exact J.v4 | exact J.v5 | exact J.v6 | exact J.l0 | exact J.l1 | exact J.l2 | exact J.l3 | exact J.row (by assumption) | exact J.ops (by assumption) | exact J.job (by assumption)) (by decide) (c_kjS J hS e1) (by decide) (by decide) (Nat.le_of_ble_eq_true rfl) rfl ?_
        refine bq_astore_n (i := 2) dX5_waitingJob_5 (by decide) ?_
        refine bq_aload_n (i := 2) dX5_waitingJob_6 rfl ?_
        refine bt_get4 dX5_waitingJob_7 fl_X5_106 (by first | assumption | exact J.v3 | exact J.v4 | exact J.v5 | exact J.v6 | exact J.l0 | exact J.l1 | exact J.l2 | exact J.l3 | exact J.row (by assumption) | exact J.ops (by assumption) | exact J.job (by assumption)) rfl (by decide) ?_
        refine bq_if_eq (tgt := 23) dX5_waitingJob_10 (by decide) (fun c_10 => ?_) (fun z9_ => absurd c z9_)
        refine bq_aload_n (i := 2) dX5_waitingJob_23 rfl ?_
        refine bt_get3 (c' := 7) (n := (8 + j)) dX5_waitingJob_24 fl_X5_101 (by first | assumption | exact J.v3 | exact J.v4 | exact J.v5 | exact J.v6 | exact J.l0 | exact J.l1 | exact J.l2 | exact J.l3 | exact J.row (by assumption) | exact J.ops (by assumption) | exact J.job (by assumption)) ⟨rfl, rfl, rfl⟩ (by decide) ?_
        refine bt_isEmpty dX5_waitingJob_27 ml_X5_234 (by first | assumption | exact J.v3 | exact J.v4 | exact J.v5 | exact J.v6 | exact J.l0 | exact J.l1 | exact J.l2 | exact J.l3 | exact J.row (by assumption) | exact J.ops (by assumption) | exact J.job (by assumption)) (bt_ls bt_sl_ops) (by decide) (Nat.le_of_ble_eq_true rfl) ?_
        refine bq_if_eq (tgt := 43) dX5_waitingJob_30 (by decide) (fun c_30 => ?_) (fun z9_ => absurd (show (if b_np σ j = 0 then nI 1 else nI 0) = 0 by rw [if_neg c2]; rfl) z9_)
        refine bq_aload_n (i := 2) dX5_waitingJob_43 rfl ?_
        exact bq_aret dX5_waitingJob_44 rfl bq_ret_i
    · rw [if_neg c] at hF; cases hF
set_option maxRecDepth 100000 in
set_option maxHeartbeats 400000 in
theorem c_wjN {G : bp_X} {α : bt_A} {σ x : bt_X} {E : String} {a : Int32} (J : bt_J α σ x) (hS : b_St σ) (hF : b_wj σ a = .inr E) (hroom : bt_us α + 7 ≤ bp_max) : bq_S G mX5_waitingJob 7 [.ref (bt_ad α 5 0), .int a] (bt α σ x) (bq_end (.inr E) (bt (bt_rm α) σ x)) := by
  refine bq_ofW (by decide +kernel) rfl (Nat.le_of_ble_eq_true rfl) ?_
  refine J.jobs hS (fun hjv => ?_)
  unfold b_wj at hF
  have hb := hS.2.2.2.1
  cases e1 : b_ix (b_nj σ) a with
  | none =>
    rw [e1] at hF
    simp only [] at hF
    refine bq_aload_n (i := 0) dX5_waitingJob_0 rfl ?_
    refine bq_iload_n (i := 1) dX5_waitingJob_1 rfl ?_
    exact bt_callVe (c := 5) (i := 0) dX5_waitingJob_2 rfl ml_X5_91 J.v5 (by decide) (c_kjN J e1 hroom) (by decide) (by decide) (Nat.le_of_ble_eq_true rfl) rfl rfl (by cases hF; exact ⟨rfl, rfl⟩)
  | some j =>
    rw [e1] at hF
    simp only [] at hF
    have hj := (b_ix_s (by omega) e1).2.1
    have hV0 := hjv j hj
    have hp4 := (hS.2.2.2.2 j hj).2
    by_cases c : σ.1 0 j 3 = 0
    · rw [if_pos c] at hF
      by_cases c2 : b_np σ j = 0
      · rw [if_pos c2] at hF
        refine bq_aload_n (i := 0) dX5_waitingJob_0 rfl ?_
        refine bq_iload_n (i := 1) dX5_waitingJob_1 rfl ?_
        refine bt_callVr (c := 5) (i := 0) dX5_waitingJob_2 rfl ml_X5_91 (by first | assumption | exact J.v3 | exact J.v4 | exact J.v5 | exact J.v6 | exact J.l0 | exact J.l1 | exact J.l2 | exact J.l3 | exact J.row (by assumption) | exact J.ops (by assumption) | exact J.job (by assumption)) (by decide) (c_kjS J hS e1) (by decide) (by decide) (Nat.le_of_ble_eq_true rfl) rfl ?_
        refine bq_astore_n (i := 2) dX5_waitingJob_5 (by decide) ?_
        refine bq_aload_n (i := 2) dX5_waitingJob_6 rfl ?_
        refine bt_get4 dX5_waitingJob_7 fl_X5_106 (by first | assumption | exact J.v3 | exact J.v4 | exact J.v5 | exact J.v6 | exact J.l0 | exact J.l1 | exact J.l2 | exact J.l3 | exact J.row (by assumption) | exact J.ops (by assumption) | exact J.job (by assumption)) rfl (by decide) ?_
        refine bq_if_eq (tgt := 23) dX5_waitingJob_10 (by decide) (fun c_10 => ?_) (fun z9_ => absurd c z9_)
        refine bq_aload_n (i := 2) dX5_waitingJob_23 rfl ?_
        refine bt_get3 (c' := 7) (n := (8 + j)) dX5_waitingJob_24 fl_X5_101 (by first | assumption | exact J.v3 | exact J.v4 | exact J.v5 | exact J.v6 | exact J.l0 | exact J.l1 | exact J.l2 | exact J.l3 | exact J.row (by assumption) | exact J.ops (by assumption) | exact J.job (by assumption)) ⟨rfl, rfl, rfl⟩ (by decide) ?_
        refine bt_isEmpty dX5_waitingJob_27 ml_X5_234 (by first | assumption | exact J.v3 | exact J.v4 | exact J.v5 | exact J.v6 | exact J.l0 | exact J.l1 | exact J.l2 | exact J.l3 | exact J.row (by assumption) | exact J.ops (by assumption) | exact J.job (by assumption)) (bt_ls bt_sl_ops) (by decide) (Nat.le_of_ble_eq_true rfl) ?_
        refine bq_if_eq (tgt := 43) dX5_waitingJob_30 (by decide) (fun z9_ => absurd z9_ (show ¬ (if b_np σ j = 0 then nI 1 else nI 0) = 0 by rw [if_pos c2]; decide)) (fun c_30 => ?_)
        exact bq_throw dX5_waitingJob_33 dX5_waitingJob_36 dX5_waitingJob_37 dX5_waitingJob_39 dX5_waitingJob_42 tw_26_237_30 rfl (by decide) (Nat.le_of_ble_eq_true rfl) hroom (by cases hF; exact ⟨rfl, rfl⟩)
      · rw [if_neg c2] at hF; cases hF
    · rw [if_neg c] at hF
      refine bq_aload_n (i := 0) dX5_waitingJob_0 rfl ?_
      refine bq_iload_n (i := 1) dX5_waitingJob_1 rfl ?_
      refine bt_callVr (c := 5) (i := 0) dX5_waitingJob_2 rfl ml_X5_91 (by first | assumption | exact J.v3 | exact J.v4 | exact J.v5 | exact J.v6 | exact J.l0 | exact J.l1 | exact J.l2 | exact J.l3 | exact J.row (by assumption) | exact J.ops (by assumption) | exact J.job (by assumption)) (by decide) (c_kjS J hS e1) (by decide) (by decide) (Nat.le_of_ble_eq_true rfl) rfl ?_
      refine bq_astore_n (i := 2) dX5_waitingJob_5 (by decide) ?_
      refine bq_aload_n (i := 2) dX5_waitingJob_6 rfl ?_
      refine bt_get4 dX5_waitingJob_7 fl_X5_106 (by first | assumption | exact J.v3 | exact J.v4 | exact J.v5 | exact J.v6 | exact J.l0 | exact J.l1 | exact J.l2 | exact J.l3 | exact J.row (by assumption) | exact J.ops (by assumption) | exact J.job (by assumption)) rfl (by decide) ?_
      refine bq_if_eq (tgt := 23) dX5_waitingJob_10 (by decide) (fun z9_ => absurd z9_ c) (fun c_10 => ?_)
      exact bq_throw dX5_waitingJob_13 dX5_waitingJob_16 dX5_waitingJob_17 dX5_waitingJob_19 dX5_waitingJob_22 tw_26_109_30 rfl (by decide) (Nat.le_of_ble_eq_true rfl) hroom (by cases hF; exact ⟨rfl, rfl⟩)
set_option maxRecDepth 100000 in
set_option maxHeartbeats 400000 in
theorem c_poS {G : bp_X} {α : bt_A} {σ x : bt_X} {r : Nat} {a b : Int32} (J : bt_J α σ x) (hS : b_St σ) (hF : b_po σ a b = .inl r) : bq_S G mX5_placedOperation 7 [.ref (bt_ad α 5 0), .int a, .int b] (bt α σ x) (bq_ret (some (.ref (bt_ad α 2 r))) (bt α σ x)) := by
  refine bq_ofW (by decide +kernel) rfl (Nat.le_of_ble_eq_true rfl) ?_
  refine J.jobs hS (fun hjv => ?_)
  unfold b_po at hF
  have hb := hS.2.2.2.1
  cases e1 : b_ix (b_nj σ) a with
  | none => rw [e1] at hF; cases hF
  | some j =>
    rw [e1] at hF
    simp only [] at hF
    have hj := (b_ix_s (by omega) e1).2.1
    have hV0 := hjv j hj
    have hp4 := (hS.2.2.2.2 j hj).2
    cases e2 : b_ix (b_np σ j) b with
    | none => rw [e2] at hF; cases hF
    | some k =>
      rw [e2] at hF
      simp only [] at hF
      obtain ⟨g1, hk, g3, g4⟩ := b_ix_s (by omega) e2
      by_cases c : σ.1 0 j 3 = 0
      · rw [if_pos c] at hF; cases hF
      · rw [if_neg c] at hF
        obtain rfl := Sum.inl.inj hF
        refine bq_aload_n (i := 0) dX5_placedOperation_0 rfl ?_
        refine bq_iload_n (i := 1) dX5_placedOperation_1 rfl ?_
        refine bt_callVr (c := 5) (i := 0) dX5_placedOperation_2 rfl ml_X5_91 (by first | assumption | exact J.v3 | exact J.v4 | exact J.v5 | exact J.v6 | exact J.l0 | exact J.l1 | exact J.l2 | exact J.l3 | exact J.row (by assumption) | exact J.ops (by assumption) | exact J.job (by assumption)) (by decide) (c_kjS J hS e1) (by decide) (by decide) (Nat.le_of_ble_eq_true rfl) rfl ?_
        refine bq_astore_n (i := 3) dX5_placedOperation_5 (by decide) ?_
        refine bq_iload_n (i := 2) dX5_placedOperation_6 rfl ?_
        refine bq_if_lt (tgt := 21) dX5_placedOperation_7 (by decide) (fun z9_ => absurd z9_ g3) (fun c_7 => ?_)
        refine bq_iload_n (i := 2) dX5_placedOperation_10 rfl ?_
        refine bq_aload_n (i := 3) dX5_placedOperation_11 rfl ?_
        refine bt_get3 (c' := 7) (n := (8 + j)) dX5_placedOperation_12 fl_X5_101 (by first | assumption | exact J.v3 | exact J.v4 | exact J.v5 | exact J.v6 | exact J.l0 | exact J.l1 | exact J.l2 | exact J.l3 | exact J.row (by assumption) | exact J.ops (by assumption) | exact J.job (by assumption)) ⟨rfl, rfl, rfl⟩ (by decide) ?_
        refine bt_size dX5_placedOperation_15 ml_X5_20 (by first | assumption | exact J.v3 | exact J.v4 | exact J.v5 | exact J.v6 | exact J.l0 | exact J.l1 | exact J.l2 | exact J.l3 | exact J.row (by assumption) | exact J.ops (by assumption) | exact J.job (by assumption)) (bt_ls bt_sl_ops) (by decide) (Nat.le_of_ble_eq_true rfl) ?_
        refine bq_icmp_lt (tgt := 31) dX5_placedOperation_18 (by decide) (fun c_18 => ?_) (fun z9_ => absurd g4 z9_)
        refine bq_aload_n (i := 3) dX5_placedOperation_31 rfl ?_
        refine bt_get4 dX5_placedOperation_32 fl_X5_106 (by first | assumption | exact J.v3 | exact J.v4 | exact J.v5 | exact J.v6 | exact J.l0 | exact J.l1 | exact J.l2 | exact J.l3 | exact J.row (by assumption) | exact J.ops (by assumption) | exact J.job (by assumption)) rfl (by decide) ?_
        refine bq_if_ne (tgt := 48) dX5_placedOperation_35 (by decide) (fun c_35 => ?_) (fun z9_ => absurd z9_ c)
        refine bq_aload_n (i := 3) dX5_placedOperation_48 rfl ?_
        refine bt_get3 (c' := 7) (n := (8 + j)) dX5_placedOperation_49 fl_X5_101 (by first | assumption | exact J.v3 | exact J.v4 | exact J.v5 | exact J.v6 | exact J.l0 | exact J.l1 | exact J.l2 | exact J.l3 | exact J.row (by assumption) | exact J.ops (by assumption) | exact J.job (by assumption)) ⟨rfl, rfl, rfl⟩ (by decide) ?_
        refine bq_iload_n (i := 2) dX5_placedOperation_52 rfl ?_
        refine bt_geti (j := k) (y := (4 * j + k)) (c' := 2) dX5_placedOperation_53 ml_X5_143 (by first | assumption | exact J.v3 | exact J.v4 | exact J.v5 | exact J.v6 | exact J.l0 | exact J.l1 | exact J.l2 | exact J.l3 | exact J.row (by assumption) | exact J.ops (by assumption) | exact J.job (by assumption)) (bt_ls bt_sl_ops) g1 (show (σ.2.2 (8 + j))[k]? = some (4 * j + k) by rw [(hS.2.2.2.2 j hj).1, List.getElem?_range' hk, Nat.one_mul]) bt_lc_ops (by decide) (Nat.le_of_ble_eq_true rfl) (fun v_53 => ?_)
        refine bt_cast (c := 2) dX5_placedOperation_56 rfl cl_X5_147 (by first | assumption | exact J.v3 | exact J.v4 | exact J.v5 | exact J.v6 | exact J.l0 | exact J.l1 | exact J.l2 | exact J.l3 | exact J.row (by assumption) | exact J.ops (by assumption) | exact J.job (by assumption)) (by decide) ?_
        exact bq_aret dX5_placedOperation_59 rfl bq_ret_i
set_option maxRecDepth 100000 in
set_option maxHeartbeats 400000 in
theorem c_poN {G : bp_X} {α : bt_A} {σ x : bt_X} {E : String} {a b : Int32} (J : bt_J α σ x) (hS : b_St σ) (hF : b_po σ a b = .inr E) (hroom : bt_us α + 7 ≤ bp_max) : bq_S G mX5_placedOperation 7 [.ref (bt_ad α 5 0), .int a, .int b] (bt α σ x) (bq_end (.inr E) (bt (bt_rm α) σ x)) := by
  refine bq_ofW (by decide +kernel) rfl (Nat.le_of_ble_eq_true rfl) ?_
  refine J.jobs hS (fun hjv => ?_)
  unfold b_po at hF
  have hb := hS.2.2.2.1
  cases e1 : b_ix (b_nj σ) a with
  | none =>
    rw [e1] at hF
    simp only [] at hF
    refine bq_aload_n (i := 0) dX5_placedOperation_0 rfl ?_
    refine bq_iload_n (i := 1) dX5_placedOperation_1 rfl ?_
    exact bt_callVe (c := 5) (i := 0) dX5_placedOperation_2 rfl ml_X5_91 J.v5 (by decide) (c_kjN J e1 hroom) (by decide) (by decide) (Nat.le_of_ble_eq_true rfl) rfl rfl (by cases hF; exact ⟨rfl, rfl⟩)
  | some j =>
    rw [e1] at hF
    simp only [] at hF
    have hj := (b_ix_s (by omega) e1).2.1
    have hV0 := hjv j hj
    have hp4 := (hS.2.2.2.2 j hj).2
    cases e2 : b_ix (b_np σ j) b with
    | none =>
      rw [e2] at hF
      simp only [] at hF
      rcases b_ix_n e2 with h | ⟨h1, h2⟩
      · refine bq_aload_n (i := 0) dX5_placedOperation_0 rfl ?_
        refine bq_iload_n (i := 1) dX5_placedOperation_1 rfl ?_
        refine bt_callVr (c := 5) (i := 0) dX5_placedOperation_2 rfl ml_X5_91 (by first | assumption | exact J.v3 | exact J.v4 | exact J.v5 | exact J.v6 | exact J.l0 | exact J.l1 | exact J.l2 | exact J.l3 | exact J.row (by assumption) | exact J.ops (by assumption) | exact J.job (by assumption)) (by decide) (c_kjS J hS e1) (by decide) (by decide) (Nat.le_of_ble_eq_true rfl) rfl ?_
        refine bq_astore_n (i := 3) dX5_placedOperation_5 (by decide) ?_
        refine bq_iload_n (i := 2) dX5_placedOperation_6 rfl ?_
        refine bq_if_lt (tgt := 21) dX5_placedOperation_7 (by decide) (fun c_7 => ?_) (fun z9_ => absurd h z9_)
        exact bq_throw dX5_placedOperation_21 dX5_placedOperation_24 dX5_placedOperation_25 dX5_placedOperation_27 dX5_placedOperation_30 tw_123_239_127 rfl (by decide) (Nat.le_of_ble_eq_true rfl) hroom (by cases hF; exact ⟨rfl, rfl⟩)
      · refine bq_aload_n (i := 0) dX5_placedOperation_0 rfl ?_
        refine bq_iload_n (i := 1) dX5_placedOperation_1 rfl ?_
        refine bt_callVr (c := 5) (i := 0) dX5_placedOperation_2 rfl ml_X5_91 (by first | assumption | exact J.v3 | exact J.v4 | exact J.v5 | exact J.v6 | exact J.l0 | exact J.l1 | exact J.l2 | exact J.l3 | exact J.row (by assumption) | exact J.ops (by assumption) | exact J.job (by assumption)) (by decide) (c_kjS J hS e1) (by decide) (by decide) (Nat.le_of_ble_eq_true rfl) rfl ?_
        refine bq_astore_n (i := 3) dX5_placedOperation_5 (by decide) ?_
        refine bq_iload_n (i := 2) dX5_placedOperation_6 rfl ?_
        refine bq_if_lt (tgt := 21) dX5_placedOperation_7 (by decide) (fun z9_ => absurd z9_ h1) (fun c_7 => ?_)
        refine bq_iload_n (i := 2) dX5_placedOperation_10 rfl ?_
        refine bq_aload_n (i := 3) dX5_placedOperation_11 rfl ?_
        refine bt_get3 (c' := 7) (n := (8 + j)) dX5_placedOperation_12 fl_X5_101 (by first | assumption | exact J.v3 | exact J.v4 | exact J.v5 | exact J.v6 | exact J.l0 | exact J.l1 | exact J.l2 | exact J.l3 | exact J.row (by assumption) | exact J.ops (by assumption) | exact J.job (by assumption)) ⟨rfl, rfl, rfl⟩ (by decide) ?_
        refine bt_size dX5_placedOperation_15 ml_X5_20 (by first | assumption | exact J.v3 | exact J.v4 | exact J.v5 | exact J.v6 | exact J.l0 | exact J.l1 | exact J.l2 | exact J.l3 | exact J.row (by assumption) | exact J.ops (by assumption) | exact J.job (by assumption)) (bt_ls bt_sl_ops) (by decide) (Nat.le_of_ble_eq_true rfl) ?_
        refine bq_icmp_lt (tgt := 31) dX5_placedOperation_18 (by decide) (fun z9_ => absurd z9_ h2) (fun c_18 => ?_)
        exact bq_throw dX5_placedOperation_21 dX5_placedOperation_24 dX5_placedOperation_25 dX5_placedOperation_27 dX5_placedOperation_30 tw_123_239_127 rfl (by decide) (Nat.le_of_ble_eq_true rfl) hroom (by cases hF; exact ⟨rfl, rfl⟩)
    | some k =>
      rw [e2] at hF
      simp only [] at hF
      obtain ⟨g1, hk, g3, g4⟩ := b_ix_s (by omega) e2
      by_cases c : σ.1 0 j 3 = 0
      · rw [if_pos c] at hF
        refine bq_aload_n (i := 0) dX5_placedOperation_0 rfl ?_
        refine bq_iload_n (i := 1) dX5_placedOperation_1 rfl ?_
        refine bt_callVr (c := 5) (i := 0) dX5_placedOperation_2 rfl ml_X5_91 (by first | assumption | exact J.v3 | exact J.v4 | exact J.v5 | exact J.v6 | exact J.l0 | exact J.l1 | exact J.l2 | exact J.l3 | exact J.row (by assumption) | exact J.ops (by assumption) | exact J.job (by assumption)) (by decide) (c_kjS J hS e1) (by decide) (by decide) (Nat.le_of_ble_eq_true rfl) rfl ?_
        refine bq_astore_n (i := 3) dX5_placedOperation_5 (by decide) ?_
        refine bq_iload_n (i := 2) dX5_placedOperation_6 rfl ?_
        refine bq_if_lt (tgt := 21) dX5_placedOperation_7 (by decide) (fun z9_ => absurd z9_ g3) (fun c_7 => ?_)
        refine bq_iload_n (i := 2) dX5_placedOperation_10 rfl ?_
        refine bq_aload_n (i := 3) dX5_placedOperation_11 rfl ?_
        refine bt_get3 (c' := 7) (n := (8 + j)) dX5_placedOperation_12 fl_X5_101 (by first | assumption | exact J.v3 | exact J.v4 | exact J.v5 | exact J.v6 | exact J.l0 | exact J.l1 | exact J.l2 | exact J.l3 | exact J.row (by assumption) | exact J.ops (by assumption) | exact J.job (by assumption)) ⟨rfl, rfl, rfl⟩ (by decide) ?_
        refine bt_size dX5_placedOperation_15 ml_X5_20 (by first | assumption | exact J.v3 | exact J.v4 | exact J.v5 | exact J.v6 | exact J.l0 | exact J.l1 | exact J.l2 | exact J.l3 | exact J.row (by assumption) | exact J.ops (by assumption) | exact J.job (by assumption)) (bt_ls bt_sl_ops) (by decide) (Nat.le_of_ble_eq_true rfl) ?_
        refine bq_icmp_lt (tgt := 31) dX5_placedOperation_18 (by decide) (fun c_18 => ?_) (fun z9_ => absurd g4 z9_)
        refine bq_aload_n (i := 3) dX5_placedOperation_31 rfl ?_
        refine bt_get4 dX5_placedOperation_32 fl_X5_106 (by first | assumption | exact J.v3 | exact J.v4 | exact J.v5 | exact J.v6 | exact J.l0 | exact J.l1 | exact J.l2 | exact J.l3 | exact J.row (by assumption) | exact J.ops (by assumption) | exact J.job (by assumption)) rfl (by decide) ?_
        refine bq_if_ne (tgt := 48) dX5_placedOperation_35 (by decide) (fun z9_ => absurd c z9_) (fun c_35 => ?_)
        exact bq_throw dX5_placedOperation_38 dX5_placedOperation_41 dX5_placedOperation_42 dX5_placedOperation_44 dX5_placedOperation_47 tw_26_232_30 rfl (by decide) (Nat.le_of_ble_eq_true rfl) hroom (by cases hF; exact ⟨rfl, rfl⟩)
      · rw [if_neg c] at hF; cases hF

