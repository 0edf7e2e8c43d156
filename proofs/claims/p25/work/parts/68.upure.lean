/-! ===== the law's small methods; which operations are placed ===== -/
section UC
variable {α : bt_A} {σ x x' : bt_X} {G : bp_X} {w : bq_O}
set_option maxRecDepth 100000 in
set_option maxHeartbeats 400000 in
theorem u_cell {k : Nat} (hn : bp_sL G < 2 ^ 31) (hk : k < 2 ^ 31) : bq_S G mL_cell 0 [.ref (bp_sb G), .int (nI k)] w (bq_val (fun v w' => (∃ u : Int32, v = some (.int u)) ∧ w' = w)) := by
  refine bq_ofW (by decide +kernel) rfl (Nat.le_of_ble_eq_true rfl) ?_
  refine bq_iload_n (i := 1) dL_cell_0 rfl ?_
  refine bq_aload_n (i := 0) dL_cell_1 rfl ?_
  refine bq_slen dL_cell_2 ?_
  refine bq_icmp_ge (tgt := 12) dL_cell_3 (by decide) (fun c => ?_) (fun c => ?_)
  · refine bq_sipush (v := nI 7919) dL_cell_12 (by decide) ?_
    refine bq_iload_n (i := 1) dL_cell_15 rfl ?_
    refine bq_iconst (v := nI 3) dL_cell_16 (by decide) ?_
    refine bq_iadd dL_cell_17 ?_
    refine bq_imul dL_cell_18 ?_
    refine bq_iload_n (i := 1) dL_cell_19 rfl ?_
    refine bq_bipush (v := nI 11) dL_cell_20 (by decide) ?_
    refine bq_iadd dL_cell_22 ?_
    refine bq_imul dL_cell_23 ?_
    exact bq_iret dL_cell_24 rfl rfl (bq_val_i ⟨⟨_, rfl⟩, rfl⟩)
  · refine bq_aload_n (i := 0) dL_cell_6 rfl ?_
    refine bq_iload_n (i := 1) dL_cell_7 rfl ?_
    refine bq_sld (j := k) dL_cell_8 rfl (Nat.lt_of_not_le fun q => c (nI_le q hk)) hn ?_
    refine bq_goto (tgt := 24) dL_cell_9 (by decide) ?_
    exact bq_iret dL_cell_24 rfl rfl (bq_val_i ⟨⟨_, rfl⟩, rfl⟩)
/-- what low makes of it -/
def u_lw (v : Int32) (n : Nat) : Nat := (v &&& (2147483647 : Int32)).toNatClampNeg % n
theorem u_lw_lt {v : Int32} {n : Nat} (hn : 0 < n) : u_lw v n < n := Nat.mod_lt _ hn
theorem u_lwE (v : Int32) (n : Nat) (hn : 0 < n) : ∃ r, u_lw v n = r ∧ r < n := ⟨_, rfl, u_lw_lt hn⟩
set_option maxRecDepth 100000 in
set_option maxHeartbeats 400000 in
theorem u_lowx {v : Int32} {n : Nat} (hn : 0 < n) (hn2 : n < 2 ^ 31) : bq_S G mL_low 0 [.int v, .int (nI n)] w (bq_ret (some (.int (nI (u_lw v n)))) w) := by
  obtain ⟨q, q1, q2⟩ := pk_andE v (m := (2147483647 : Int32)) 31 (by decide)
  have e : u_lw v n = q % n := by unfold u_lw; rw [q2, nI_clamp q1]
  rw [e]
  refine bq_ofW (by decide +kernel) rfl (Nat.le_of_ble_eq_true rfl) ?_
  refine bq_iload_n (i := 0) dL_low_0 rfl ?_
  refine bq_ldc dL_low_1 kc_L_7 ?_
  refine bq_iand dL_low_3 ?_
  rw [q2]
  refine bq_iload_n (i := 1) dL_low_4 rfl ?_
  refine bq_irem dL_low_5 (nI_ne0 hn hn2) ?_
  rw [pk_rem q1 hn hn2]
  exact bq_iret dL_low_6 rfl rfl bq_ret_i
/-- the operations of the placed ones of the first jobs -/
def u_PL (σ : bt_X) : Nat → List Nat
  | 0 => []
  | j + 1 => u_PL σ j ++ (if σ.1 0 j 3 = nI 1 then List.range' (4 * j) (b_np σ j) else [])
theorem u_PL_mem : ∀ (j i : Nat), i ∈ u_PL σ j ↔ ∃ j', j' < j ∧ σ.1 0 j' 3 = nI 1 ∧ 4 * j' ≤ i ∧ i < 4 * j' + b_np σ j' := by
  intro j
  induction j with
  | zero => intro i; exact ⟨fun h => absurd h List.not_mem_nil, fun ⟨j', h, _⟩ => absurd h (Nat.not_lt_zero _)⟩
  | succ j ih =>
    intro i
    unfold u_PL
    rw [List.mem_append, ih]
    constructor
    · rintro (⟨j', q1, q2, q3⟩ | q)
      · exact ⟨j', by omega, q2, q3⟩
      · split at q
        · rename_i c
          rw [List.mem_range'_1] at q
          exact ⟨j, by omega, c, q.1, q.2⟩
        · exact absurd q List.not_mem_nil
    · rintro ⟨j', q1, q2, q3, q4⟩
      by_cases e : j' = j
      · subst e
        rw [if_pos q2, List.mem_range'_1]
        exact Or.inr ⟨q3, q4⟩
      · exact Or.inl ⟨j', by omega, q2, q3, q4⟩
theorem u_PL_nd (h : v_Inv σ x) : ∀ j, j ≤ b_nj σ → (u_PL σ j).Nodup := by
  intro j
  induction j with
  | zero => intro _; exact List.nodup_nil
  | succ j ih =>
    intro hj
    unfold u_PL
    refine List.nodup_append.mpr ⟨ih (by omega), ?_, fun a ha b hb e => ?_⟩
    · split
      · exact List.nodup_range'
      · exact List.nodup_nil
    · subst e
      split at hb
      · rw [List.mem_range'_1] at hb
        obtain ⟨j', q1, q2, q3, q4⟩ := (u_PL_mem j a).mp ha
        have := u_np4 h (show j' < b_nj σ by omega)
        omega
      · exact absurd hb List.not_mem_nil
theorem u_PL_op (h : v_Inv σ x) {i : Nat} : i ∈ u_PL σ (b_nj σ) ↔ (v_op σ i ∧ σ.1 0 (i / 4) 3 = nI 1) := by
  rw [u_PL_mem]
  constructor
  · rintro ⟨j', q1, q2, q3, q4⟩
    have := u_np4 h q1
    have e : i / 4 = j' := by omega
    exact ⟨⟨by omega, by rw [e]; omega⟩, by rw [e]; exact q2⟩
  · rintro ⟨⟨q1, q2⟩, q3⟩
    exact ⟨i / 4, q1, q3, by omega, by omega⟩
theorem u_PL_ord (h : v_Inv σ x) {i : Nat} : i ∈ u_PL σ (b_nj σ) ↔ i ∈ x.2.2 2 := by
  rw [u_PL_op h]
  constructor
  · rintro ⟨q1, q2⟩
    exact v_pl_ord h q1 q2
  · intro hi
    obtain ⟨hSo, hS⟩ := v_Sx h
    obtain ⟨m, hm, him⟩ := hSo.2.1 i hi
    have hop := (hS i hi).1
    exact ⟨hop, (h.1.2.2.2.1 i hop).mp ⟨m, hm, him⟩⟩
theorem u_PL_len (h : v_Inv σ x) : (u_PL σ (b_nj σ)).length = (x.2.2 2).length :=
  Nat.le_antisymm (v_sub _ _ (u_PL_nd h _ (Nat.le_refl _)) (fun a ha => (u_PL_ord h).mp ha)) (v_sub _ _ (v_Sx h).1.2.2.2.1 (fun a ha => (u_PL_ord h).mpr ha))
/-- the greatest of so many finishes -/
def u_mx (σ x : bt_X) (Q : List Nat) (S : Nat) : Prop := (∀ i ∈ Q, u_F σ x i ≤ S) ∧ (S = 0 ∨ ∃ i ∈ Q, S = u_F σ x i)
theorem u_mx.one {Q Q' : List Nat} {S S' : Nat} (h : u_mx σ x Q S) (g : u_mx σ x Q' S') (e : ∀ i, i ∈ Q ↔ i ∈ Q') : S = S' := by
  obtain ⟨h1, h2⟩ := h
  obtain ⟨g1, g2⟩ := g
  have a : S ≤ S' := by
    rcases h2 with q | ⟨i, q1, q2⟩
    · omega
    · rw [q2]; exact g1 i ((e i).mp q1)
  have b : S' ≤ S := by
    rcases g2 with q | ⟨i, q1, q2⟩
    · omega
    · rw [q2]; exact h1 i ((e i).mpr q1)
  omega
theorem u_mx.add {Q : List Nat} {S i : Nat} (h : u_mx σ x Q S) : u_mx σ x (Q ++ [i]) (if S < u_F σ x i then u_F σ x i else S) := by
  obtain ⟨h1, h2⟩ := h
  refine ⟨fun a ha => ?_, ?_⟩
  · rcases List.mem_append.mp ha with q | q
    · have := h1 a q
      split <;> omega
    · rw [List.mem_singleton] at q
      subst q
      split <;> omega
  · split
    · exact Or.inr ⟨i, List.mem_append.mpr (Or.inr List.mem_cons_self), rfl⟩
    · rcases h2 with q | ⟨a, q1, q2⟩
      · exact Or.inl q
      · exact Or.inr ⟨a, List.mem_append.mpr (Or.inl q1), q2⟩
theorem u_mx_P (h : v_Inv σ x) {S P : Nat} (hS : u_mx σ x (u_PL σ (b_nj σ)) S) (hP : x.1 4 0 5 = nI P) (hP2 : P < 1000000) : S = P := by
  obtain ⟨P', p1, p2, p3, p4⟩ := u_P h
  have e : P' = P := by
    rw [p2] at hP
    exact (nI_eq (by omega) (by omega)).mp hP
  subst e
  exact hS.one ⟨p3, p4⟩ (fun i => u_PL_ord h)
/-- what stands in the rows of the first machines -/
theorem u_fl_nd (h : v_Inv σ x) : ∀ L : List Nat, L.Nodup → (∀ m ∈ L, m < b_nm σ) → (v_fl x L).Nodup ∧ ∀ a, a ∈ v_fl x L ↔ ∃ m ∈ L, a ∈ x.2.2 (4 + m) := by
  intro L
  induction L with
  | nil => intro _ _; exact ⟨List.nodup_nil, fun a => ⟨fun ha => absurd ha List.not_mem_nil, fun ⟨m, q, _⟩ => absurd q List.not_mem_nil⟩⟩
  | cons b L ih =>
    intro hn hL
    rw [List.nodup_cons] at hn
    obtain ⟨g1, g2⟩ := ih hn.2 (fun m hm => hL m (List.mem_cons_of_mem _ hm))
    have hb := hL b List.mem_cons_self
    unfold v_fl
    refine ⟨List.nodup_append.mpr ⟨(h.1.2.1.1 b hb).1, g1, fun u hu v hv q => ?_⟩, fun a => ?_⟩
    · subst q
      obtain ⟨m, q1, q2⟩ := (g2 u).mp hv
      have e1 := ((h.1.2.1.1 b hb).2 u hu).2
      have e2 := ((h.1.2.1.1 m (hL m (List.mem_cons_of_mem _ q1))).2 u q2).2
      exact hn.1 (by rw [← e1, e2]; exact q1)
    · rw [List.mem_append, g2]
      constructor
      · rintro (q | ⟨m, q1, q2⟩)
        · exact ⟨b, List.mem_cons_self, q⟩
        · exact ⟨m, List.mem_cons_of_mem _ q1, q2⟩
      · rintro ⟨m, q1, q2⟩
        rcases List.mem_cons.mp q1 with rfl | q1
        · exact Or.inl q2
        · exact Or.inr ⟨m, q1, q2⟩
/-- the rows of the first machines, one behind the other -/
def u_RL (x : bt_X) : Nat → List Nat
  | 0 => []
  | m + 1 => u_RL x m ++ x.2.2 (4 + m)
theorem u_RL_mem : ∀ (m i : Nat), i ∈ u_RL x m ↔ ∃ m', m' < m ∧ i ∈ x.2.2 (4 + m') := by
  intro m
  induction m with
  | zero => intro i; exact ⟨fun h => absurd h List.not_mem_nil, fun ⟨j', h, _⟩ => absurd h (Nat.not_lt_zero _)⟩
  | succ m ih =>
    intro i
    unfold u_RL
    rw [List.mem_append, ih]
    constructor
    · rintro (⟨m', q1, q2⟩ | q)
      · exact ⟨m', by omega, q2⟩
      · exact ⟨m, by omega, q⟩
    · rintro ⟨m', q1, q2⟩
      by_cases e : m' = m
      · subst e; exact Or.inr q2
      · exact Or.inl ⟨m', by omega, q2⟩
/-- so many of the rows: each operation once -/
theorem u_RL_nd (h : v_Inv σ x) : ∀ m, m ≤ b_nm σ → (u_RL x m).Nodup := by
  intro m
  induction m with
  | zero => intro _; exact List.nodup_nil
  | succ m ih =>
    intro hm
    unfold u_RL
    refine List.nodup_append.mpr ⟨ih (by omega), (h.1.2.1.1 m (by omega)).1, fun a ha b hb e => ?_⟩
    subst e
    obtain ⟨m', q1, q2⟩ := (u_RL_mem m a).mp ha
    have e1 := ((h.1.2.1.1 m' (by omega)).2 a q2).2
    have e2 := ((h.1.2.1.1 m (by omega)).2 a hb).2
    omega
theorem u_RL_PL (h : v_Inv σ x) {i : Nat} : i ∈ u_RL x (b_nm σ) ↔ i ∈ u_PL σ (b_nj σ) := by
  rw [u_PL_op h, u_RL_mem]
  constructor
  · rintro ⟨m, q1, q2⟩
    have hop := ((h.1.2.1.1 m q1).2 i q2).1
    exact ⟨hop, (h.1.2.2.2.1 i hop).mp ⟨m, q1, q2⟩⟩
  · rintro ⟨q1, q2⟩
    obtain ⟨m, hm, him⟩ := (h.1.2.2.2.1 i q1).mpr q2
    exact ⟨m, hm, him⟩
theorem u_RL_len (h : v_Inv σ x) : (u_RL x (b_nm σ)).length = (u_PL σ (b_nj σ)).length :=
  Nat.le_antisymm (v_sub _ _ (u_RL_nd h _ (Nat.le_refl _)) (fun a ha => (u_RL_PL h).mp ha)) (v_sub _ _ (u_PL_nd h _ (Nat.le_refl _)) (fun a ha => (u_RL_PL h).mpr ha))
theorem u_RL_32 (h : v_Inv σ x) {m : Nat} (hm : m ≤ b_nm σ) : (u_RL x m).length ≤ 32 := by
  have : (u_RL x m).length ≤ (x.2.2 2).length := v_sub _ _ (u_RL_nd h _ hm) (fun a ha => by
    obtain ⟨m', q1, q2⟩ := (u_RL_mem m a).mp ha
    exact (v_Sx h).1.1 m' (by omega) a q2)
  have h2 := (v_Sx h).1.2.2.2.2.1
  omega
end UC
