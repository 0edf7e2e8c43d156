/-! ===== the reference: placing ===== -/
def m_psh (m pl : Nat) : Nat → bt_X → bt_X
  | 0, x => x
  | n + 1, x => m_psh m pl n (bt_gs x 8 16 (32 * m + (pl + (n + 1))) (x.1 8 16 (32 * m + (pl + n))))
def m_puts (σ x : bt_X) (p pl : Nat) : bt_X :=
  bt_gs (bt_gs (m_psh (m_mc σ p) pl (m_rn x (m_mc σ p) - pl) x) 8 16 (32 * m_mc σ p + pl) (nI p)) 8 15 (m_mc σ p) (nI (m_rn x (m_mc σ p) + 1))
theorem m_psh_n {m pl c i k : Nat} (h : ¬ (c = 8 ∧ i = 16)) : ∀ (n : Nat) (x : bt_X), (m_psh m pl n x).1 c i k = x.1 c i k := by
  intro n
  induction n with
  | zero => intro x; rfl
  | succ n ih =>
    intro x
    unfold m_psh
    rw [ih, b_gs_ne (by omega)]
theorem m_psh_at {m pl : Nat} : ∀ (n : Nat) (x : bt_X) (j : Nat), (m_psh m pl n x).1 8 16 j = if 32 * m + pl < j ∧ j ≤ 32 * m + pl + n then x.1 8 16 (j - 1) else x.1 8 16 j := by
  intro n
  induction n with
  | zero => intro x j; rw [if_neg (by omega)]; rfl
  | succ n ih =>
    intro x j
    unfold m_psh
    rw [ih]
    by_cases c : 32 * m + pl < j ∧ j ≤ 32 * m + pl + n
    · rw [if_pos c, if_pos (by omega), b_gs_ne (by omega)]
    · rw [if_neg c]
      by_cases e : j = 32 * m + (pl + (n + 1))
      · subst e
        rw [b_gs_at, if_pos (by omega)]
        congr 1
      · rw [b_gs_ne (by omega), if_neg (by omega)]
/-- the places of the row behind a putting in -/
theorem m_puts_at {σ x : bt_X} {p pl : Nat} (hp : pl ≤ m_rn x (m_mc σ p)) {m k : Nat} (hm : m < 4) (hm2 : m_mc σ p < 4) (hk : k < 32) (h32 : m_rn x (m_mc σ p) < 32) :
    (m_puts σ x p pl).1 8 16 (32 * m + k) = if m = m_mc σ p then (if k = pl then nI p else if pl < k ∧ k ≤ m_rn x (m_mc σ p) then x.1 8 16 (32 * m + (k - 1)) else x.1 8 16 (32 * m + k)) else x.1 8 16 (32 * m + k) := by
  unfold m_puts
  rw [b_gs_ne (by omega)]
  by_cases e : m = m_mc σ p
  · rw [if_pos e]
    subst e
    by_cases e2 : k = pl
    · subst e2
      rw [if_pos rfl, b_gs_at]
    · rw [if_neg e2, b_gs_ne (by omega), m_psh_at]
      by_cases c : pl < k ∧ k ≤ m_rn x (m_mc σ p)
      · rw [if_pos c, if_pos (by omega)]
        exact congrArg (x.1 8 16) (by omega)
      · rw [if_neg c, if_neg (by omega)]
  · rw [if_neg e, b_gs_ne (by omega), m_psh_at, if_neg (by omega)]
theorem m_puts_rn {σ x : bt_X} {p pl m : Nat} (h32 : m_rn x (m_mc σ p) < 32) : m_rn (m_puts σ x p pl) m = if m = m_mc σ p then m_rn x m + 1 else m_rn x m := by
  unfold m_puts
  by_cases e : m = m_mc σ p
  · subst e
    rw [if_pos rfl]
    show nN _ = _
    rw [b_gs_at]
    exact nI_clamp (by omega)
  · rw [if_neg e]
    show nN _ = _
    rw [b_gs_ne (by omega), b_gs_ne (by omega), m_psh_n (by omega)]
    rfl
theorem m_puts_n {σ x : bt_X} {p pl c i k : Nat} (h : ¬ (c = 8 ∧ (i = 15 ∨ i = 16))) : (m_puts σ x p pl).1 c i k = x.1 c i k := by
  unfold m_puts
  rw [b_gs_ne (by omega), b_gs_ne (by omega), m_psh_n (by omega)]
theorem m_Rw.puts {σ x : bt_X} (h : m_Rw x) {p pl : Nat} (hp : p < 32) (hm2 : m_mc σ p < 4) (hpl : pl ≤ m_rn x (m_mc σ p)) (h32 : m_rn x (m_mc σ p) < 32) : m_Rw (m_puts σ x p pl) := by
  intro m hm
  have er := m_puts_rn (σ := σ) (x := x) (p := p) (pl := pl) (m := m) h32
  have e15 : (m_puts σ x p pl).1 8 15 m = nI (if m = m_mc σ p then m_rn x m + 1 else m_rn x m) := by
    by_cases e : m = m_mc σ p
    · subst e
      rw [if_pos rfl]
      unfold m_puts
      rw [b_gs_at]
    · rw [if_neg e]
      unfold m_puts
      rw [b_gs_ne (by omega), b_gs_ne (by omega), m_psh_n (by omega)]
      exact (h m hm).1.e
  have hl : (if m = m_mc σ p then m_rn x m + 1 else m_rn x m) < 33 := by
    by_cases e : m = m_mc σ p
    · subst e; rw [if_pos rfl]; omega
    · rw [if_neg e]; exact (h m hm).1.l
  refine ⟨by rw [e15]; exact m_wi hl (by omega), fun k hk => ?_⟩
  have hk2 : k < if m = m_mc σ p then m_rn x m + 1 else m_rn x m := by rw [← er]; exact hk
  rw [m_puts_at hpl hm hm2 (by omega) h32]
  by_cases e : m = m_mc σ p
  · subst e
    rw [if_pos rfl]
    rw [if_pos rfl] at hk2
    by_cases e2 : k = pl
    · rw [if_pos e2]; exact m_wi hp (by omega)
    · rw [if_neg e2]
      by_cases c : pl < k ∧ k ≤ m_rn x (m_mc σ p)
      · rw [if_pos c]
        exact (h _ hm).2 (k - 1) (show k - 1 < m_rn x (m_mc σ p) by omega)
      · rw [if_neg c]
        exact (h _ hm).2 k (show k < m_rn x (m_mc σ p) by omega)
  · rw [if_neg e]
    rw [if_neg e] at hk2
    exact (h m hm).2 k hk2
set_option maxRecDepth 100000 in
set_option maxHeartbeats 400000 in
theorem n_psh {G : bp_X} {α : bt_A} {σ : bt_X} (J : m_J α) {Φ : bp_O → bq_O → Prop} {m p pl : Nat} (hm : m < 4) : ∀ (n : Nat) (x : bt_X), pl + n < 32 → bq_W G mX6_puts 0 53 [(0, .ref (bt_ad α 6 0)), (1, .int (nI p)), (2, .int (nI pl)), (3, .int (nI m))] [] (bt α σ (m_psh m pl n x)) Φ → bq_W G mX6_puts 0 15 [(0, .ref (bt_ad α 6 0)), (1, .int (nI p)), (2, .int (nI pl)), (3, .int (nI m)), (4, .int (nI (pl + n)))] [] (bt α σ x) Φ := by
  intro n
  induction n with
  | zero =>
    intro x hn kk
    unfold m_psh at kk
    refine bq_iload (i := 4) dX6_puts_15 rfl ?_
    refine bq_iload_n (i := 2) dX6_puts_17 rfl ?_
    refine bq_icmp_le (tgt := 53) dX6_puts_18 (by decide) (fun c_18 => ?_) (fun z9_ => absurd (show nI (pl + 0) ≤ nI pl from nI_le (by omega) (by omega)) z9_)
    refine bq_lvs (lv' := [(0, .ref (bt_ad α 6 0)), (1, .int (nI p)), (2, .int (nI pl)), (3, .int (nI m))]) ⟨rfl, rfl, rfl, rfl, trivial⟩ ?_
    exact kk
  | succ n ih =>
    intro x hn kk
    unfold m_psh at kk
    refine bq_iload (i := 4) dX6_puts_15 rfl ?_
    refine bq_iload_n (i := 2) dX6_puts_17 rfl ?_
    refine bq_icmp_le (tgt := 53) dX6_puts_18 (by decide) (fun z9_ => absurd z9_ (show ¬ nI (pl + (n + 1)) ≤ nI pl from nI_ge (by omega) (by omega))) (fun c_18 => ?_)
    refine bq_aload_n (i := 0) dX6_puts_21 rfl ?_
    refine bt_get3 (c' := 8) (n := 16) dX6_puts_22 fl_X6_22 (by first | assumption | exact J.v3 | exact J.v4 | exact J.v5 | exact J.v6 | exact J.l0 | exact J.l1 | exact J.l2 | exact J.l3 | exact J.row (by assumption) | exact J.ops (by assumption) | exact J.job (by assumption)) ⟨rfl, rfl, rfl⟩ (by decide) ?_
    refine bq_bipush (v := (nI 32)) dX6_puts_25 (by decide) ?_
    refine bq_iload_n (i := 3) dX6_puts_27 rfl ?_
    refine bq_imul dX6_puts_28 ?_
    refine bq_iload (i := 4) dX6_puts_29 rfl ?_
    refine bq_iadd dX6_puts_31 ?_
    refine bq_aload_n (i := 0) dX6_puts_32 rfl ?_
    refine bt_get3 (c' := 8) (n := 16) dX6_puts_33 fl_X6_22 (by first | assumption | exact J.v3 | exact J.v4 | exact J.v5 | exact J.v6 | exact J.l0 | exact J.l1 | exact J.l2 | exact J.l3 | exact J.row (by assumption) | exact J.ops (by assumption) | exact J.job (by assumption)) ⟨rfl, rfl, rfl⟩ (by decide) ?_
    refine bq_bipush (v := (nI 32)) dX6_puts_36 (by decide) ?_
    refine bq_iload_n (i := 3) dX6_puts_38 rfl ?_
    refine bq_imul dX6_puts_39 ?_
    refine bq_iload (i := 4) dX6_puts_40 rfl ?_
    refine bq_iadd dX6_puts_42 ?_
    refine bq_iconst (v := (nI 1)) dX6_puts_43 (by decide) ?_
    refine bq_isub dX6_puts_44 ?_
    refine bt_iald0 (n := 16) (j := (32 * m + (pl + (n + 1)) - 1)) dX6_puts_45 J.a16 (by rw [pk_mul, nI_add, pk_sub (by omega)]) (by omega) (by decide) rfl ?_
    rw [show 32 * m + (pl + (n + 1)) - 1 = 32 * m + (pl + n) by omega]
    refine bt_iast0 (n := 16) (j := (32 * m + (pl + (n + 1)))) dX6_puts_46 J.a16 (by rw [pk_mul, nI_add]) (by omega) (by decide) rfl ?_
    refine bq_iinc dX6_puts_47 rfl (by decide) (pk_m1 (pl + n)) ?_
    refine bq_goto (tgt := 15) dX6_puts_50 (by decide) ?_
    refine bq_lvs (lv' := [(0, .ref (bt_ad α 6 0)), (1, .int (nI p)), (2, .int (nI pl)), (3, .int (nI m)), (4, .int (nI (pl + n)))]) ⟨rfl, rfl, rfl, rfl, rfl, trivial⟩ ?_
    exact ih _ (by omega) kk
set_option maxRecDepth 100000 in
set_option maxHeartbeats 400000 in
theorem n_puts {G : bp_X} {α : bt_A} {σ x : bt_X} {p pl : Nat} (J : m_J α) (hK : m_K σ) (hR : m_Rw x) (hp : p < 32) (hpl : pl ≤ m_rn x (m_mc σ p)) (h32 : m_rn x (m_mc σ p) < 32) : bq_S G mX6_puts 0 [.ref (bt_ad α 6 0), .int (nI p), .int (nI pl)] (bt α σ x) (bq_ret none (bt α σ (m_puts σ x p pl))) := by
  obtain ⟨c1, c2⟩ := m_mc_e hK hp
  obtain ⟨r1, r2⟩ := m_rn_e hR c2
  obtain ⟨n, hn⟩ : ∃ n, pl + n = m_rn x (m_mc σ p) := ⟨m_rn x (m_mc σ p) - pl, by omega⟩
  refine bq_ofW (by decide +kernel) rfl (Nat.le_of_ble_eq_true rfl) ?_
  refine bq_aload_n (i := 0) dX6_puts_0 rfl ?_
  refine bt_get3 (c' := 8) (n := 21) dX6_puts_1 fl_X6_35 (by first | assumption | exact J.v3 | exact J.v4 | exact J.v5 | exact J.v6 | exact J.l0 | exact J.l1 | exact J.l2 | exact J.l3 | exact J.row (by assumption) | exact J.ops (by assumption) | exact J.job (by assumption)) ⟨rfl, rfl, rfl⟩ (by decide) ?_
  refine bq_iload_n (i := 1) dX6_puts_4 rfl ?_
  refine bt_iald4 (n := 21) (j := p) dX6_puts_5 J.a21 rfl (by omega) (by decide) rfl ?_
  rw [c1]
  refine bq_istore_n (i := 3) dX6_puts_6 (by decide) ?_
  refine bq_aload_n (i := 0) dX6_puts_7 rfl ?_
  refine bt_get3 (c' := 8) (n := 15) dX6_puts_8 fl_X6_19 (by first | assumption | exact J.v3 | exact J.v4 | exact J.v5 | exact J.v6 | exact J.l0 | exact J.l1 | exact J.l2 | exact J.l3 | exact J.row (by assumption) | exact J.ops (by assumption) | exact J.job (by assumption)) ⟨rfl, rfl, rfl⟩ (by decide) ?_
  refine bq_iload_n (i := 3) dX6_puts_11 rfl ?_
  refine bt_iald0 (n := 15) (j := (m_mc σ p)) dX6_puts_12 J.a15 rfl (by omega) (by decide) rfl ?_
  rw [r1]
  refine bq_istore (i := 4) dX6_puts_13 (by decide) ?_
  rw [← hn]
  refine bq_lvs (lv' := [(0, .ref (bt_ad α 6 0)), (1, .int (nI p)), (2, .int (nI pl)), (3, .int (nI (m_mc σ p))), (4, .int (nI (pl + n)))]) ⟨rfl, rfl, rfl, rfl, rfl, trivial⟩ ?_
  refine n_psh J c2 n x (by omega) ?_
  rw [show n = m_rn x (m_mc σ p) - pl by omega]
  refine bq_aload_n (i := 0) dX6_puts_53 rfl ?_
  refine bt_get3 (c' := 8) (n := 16) dX6_puts_54 fl_X6_22 (by first | assumption | exact J.v3 | exact J.v4 | exact J.v5 | exact J.v6 | exact J.l0 | exact J.l1 | exact J.l2 | exact J.l3 | exact J.row (by assumption) | exact J.ops (by assumption) | exact J.job (by assumption)) ⟨rfl, rfl, rfl⟩ (by decide) ?_
  refine bq_bipush (v := (nI 32)) dX6_puts_57 (by decide) ?_
  refine bq_iload_n (i := 3) dX6_puts_59 rfl ?_
  refine bq_imul dX6_puts_60 ?_
  refine bq_iload_n (i := 2) dX6_puts_61 rfl ?_
  refine bq_iadd dX6_puts_62 ?_
  refine bq_iload_n (i := 1) dX6_puts_63 rfl ?_
  refine bt_iast0 (n := 16) (j := (32 * m_mc σ p + pl)) dX6_puts_64 J.a16 (by rw [pk_mul, nI_add]) (by omega) (by decide) rfl ?_
  refine bq_aload_n (i := 0) dX6_puts_65 rfl ?_
  refine bt_get3 (c' := 8) (n := 15) dX6_puts_66 fl_X6_19 (by first | assumption | exact J.v3 | exact J.v4 | exact J.v5 | exact J.v6 | exact J.l0 | exact J.l1 | exact J.l2 | exact J.l3 | exact J.row (by assumption) | exact J.ops (by assumption) | exact J.job (by assumption)) ⟨rfl, rfl, rfl⟩ (by decide) ?_
  refine bq_iload_n (i := 3) dX6_puts_69 rfl ?_
  refine bq_dup2 dX6_puts_70 rfl rfl ?_
  refine bt_iald0 (n := 15) (j := (m_mc σ p)) dX6_puts_71 J.a15 rfl (by omega) (by decide) rfl ?_
  rw [b_gs_ne (by omega), m_psh_n (by omega), r1]
  refine bq_iconst (v := (nI 1)) dX6_puts_72 (by decide) ?_
  refine bq_iadd dX6_puts_73 ?_
  rw [nI_add]
  refine bt_iast0 (n := 15) (j := (m_mc σ p)) dX6_puts_74 J.a15 rfl (by omega) (by decide) rfl ?_
  exact bq_vret dX6_puts_75 rfl bq_ret_i
def m_fnd (x : bt_X) (m p : Nat) : Nat → Nat → Nat
  | 0, k => k
  | n + 1, k => if x.1 8 16 (32 * m + k) = nI p then k else m_fnd x m p n (k + 1)
def m_tsh (m : Nat) : Nat → Nat → bt_X → bt_X
  | 0, _, x => x
  | n + 1, j, x => m_tsh m n (j + 1) (bt_gs x 8 16 (32 * m + j) (x.1 8 16 (32 * m + j + 1)))
def m_at (σ x : bt_X) (p : Nat) : Nat := m_fnd x (m_mc σ p) p (m_rn x (m_mc σ p)) 0
def m_takes (σ x : bt_X) (p : Nat) : bt_X := m_tsh (m_mc σ p) (m_rn x (m_mc σ p) - 1 - m_at σ x p) (m_at σ x p) (bt_gs x 8 15 (m_mc σ p) (nI (m_rn x (m_mc σ p) - 1)))
/-- it is in its machine's row -/
def m_has (σ x : bt_X) (p : Nat) : Prop := ∃ i, i < m_rn x (m_mc σ p) ∧ x.1 8 16 (32 * m_mc σ p + i) = nI p
theorem m_fnd_s {x : bt_X} {m p : Nat} : ∀ (n k : Nat), (∃ i, k ≤ i ∧ i < k + n ∧ x.1 8 16 (32 * m + i) = nI p) → k ≤ m_fnd x m p n k ∧ m_fnd x m p n k < k + n ∧ x.1 8 16 (32 * m + m_fnd x m p n k) = nI p ∧ ∀ i, k ≤ i → i < m_fnd x m p n k → ¬ x.1 8 16 (32 * m + i) = nI p := by
  intro n
  induction n with
  | zero => rintro k ⟨i, h1, h2, -⟩; omega
  | succ n ih =>
    rintro k ⟨i, h1, h2, h3⟩
    unfold m_fnd
    by_cases c : x.1 8 16 (32 * m + k) = nI p
    · rw [if_pos c]
      exact ⟨Nat.le_refl _, by omega, c, fun i h4 h5 => by omega⟩
    · rw [if_neg c]
      have : i ≠ k := fun z => c (by rw [← z]; exact h3)
      obtain ⟨g1, g2, g3, g4⟩ := ih (k + 1) ⟨i, by omega, by omega, h3⟩
      refine ⟨by omega, by omega, g3, fun j h4 h5 => ?_⟩
      by_cases e : j = k
      · subst e; exact c
      · exact g4 j (by omega) h5
theorem m_at_s {σ x : bt_X} {p : Nat} (h : m_has σ x p) : m_at σ x p < m_rn x (m_mc σ p) ∧ x.1 8 16 (32 * m_mc σ p + m_at σ x p) = nI p ∧ ∀ i, i < m_at σ x p → ¬ x.1 8 16 (32 * m_mc σ p + i) = nI p := by
  obtain ⟨i, h1, h2⟩ := h
  obtain ⟨g1, g2, g3, g4⟩ := m_fnd_s (x := x) (m := m_mc σ p) (p := p) (m_rn x (m_mc σ p)) 0 ⟨i, by omega, by omega, h2⟩
  exact ⟨by rw [Nat.zero_add] at g2; exact g2, g3, fun j hj => g4 j (Nat.zero_le _) hj⟩
theorem m_tsh_n {m c i k : Nat} (h : ¬ (c = 8 ∧ i = 16)) : ∀ (n j : Nat) (x : bt_X), (m_tsh m n j x).1 c i k = x.1 c i k := by
  intro n
  induction n with
  | zero => intro j x; rfl
  | succ n ih =>
    intro j x
    unfold m_tsh
    rw [ih, b_gs_ne (by omega)]
theorem m_tsh_at {m : Nat} : ∀ (n j : Nat) (x : bt_X) (i : Nat), (m_tsh m n j x).1 8 16 i = if 32 * m + j ≤ i ∧ i < 32 * m + j + n then x.1 8 16 (i + 1) else x.1 8 16 i := by
  intro n
  induction n with
  | zero => intro j x i; rw [if_neg (by omega)]; rfl
  | succ n ih =>
    intro j x i
    unfold m_tsh
    rw [ih]
    by_cases c : 32 * m + (j + 1) ≤ i ∧ i < 32 * m + (j + 1) + n
    · rw [if_pos c, if_pos (by omega), b_gs_ne (by omega)]
    · rw [if_neg c]
      by_cases e : i = 32 * m + j
      · subst e
        rw [b_gs_at, if_pos (by omega)]
      · rw [b_gs_ne (by omega), if_neg (by omega)]
theorem m_takes_at {σ x : bt_X} {p : Nat} (h : m_has σ x p) {m k : Nat} (hm : m < 4) (hm2 : m_mc σ p < 4) (hk : k < 32) (h33 : m_rn x (m_mc σ p) < 33) (hk2 : m = m_mc σ p → k + 1 < m_rn x m) :
    (m_takes σ x p).1 8 16 (32 * m + k) = if m = m_mc σ p ∧ m_at σ x p ≤ k then x.1 8 16 (32 * m + (k + 1)) else x.1 8 16 (32 * m + k) := by
  obtain ⟨h1, -, -⟩ := m_at_s h
  unfold m_takes
  rw [m_tsh_at]
  by_cases e : m = m_mc σ p ∧ m_at σ x p ≤ k
  · have h3 := hk2 e.1
    obtain ⟨e1, e2⟩ := e
    subst e1
    rw [if_pos (by omega), if_pos ⟨rfl, e2⟩, b_gs_ne (by omega)]
    rfl
  · rw [if_neg e]
    rw [if_neg, b_gs_ne (by omega)]
    intro z
    by_cases e1 : m = m_mc σ p
    · have : ¬ m_at σ x p ≤ k := fun z2 => e ⟨e1, z2⟩
      rw [← e1] at z
      omega
    · omega
theorem m_takes_rn {σ x : bt_X} {p m : Nat} (h33 : m_rn x (m_mc σ p) < 33) : m_rn (m_takes σ x p) m = if m = m_mc σ p then m_rn x m - 1 else m_rn x m := by
  show nN _ = _
  unfold m_takes
  rw [m_tsh_n (by omega)]
  by_cases e : m = m_mc σ p
  · subst e
    rw [if_pos rfl, b_gs_at]
    exact nI_clamp (by omega)
  · rw [if_neg e, b_gs_ne (by omega)]
    rfl
theorem m_takes_n {σ x : bt_X} {p c i k : Nat} (h : ¬ (c = 8 ∧ (i = 15 ∨ i = 16))) : (m_takes σ x p).1 c i k = x.1 c i k := by
  unfold m_takes
  rw [m_tsh_n (by omega), b_gs_ne (by omega)]
theorem m_Rw.takes {σ x : bt_X} (h : m_Rw x) {p : Nat} (hm2 : m_mc σ p < 4) (hh : m_has σ x p) : m_Rw (m_takes σ x p) := by
  intro m hm
  have h33 : m_rn x (m_mc σ p) < 33 := (h _ hm2).1.l
  have er := m_takes_rn (σ := σ) (x := x) (p := p) (m := m) h33
  have e15 : (m_takes σ x p).1 8 15 m = nI (if m = m_mc σ p then m_rn x m - 1 else m_rn x m) := by
    unfold m_takes
    rw [m_tsh_n (by omega)]
    by_cases e : m = m_mc σ p
    · subst e
      rw [if_pos rfl, b_gs_at]
    · rw [if_neg e, b_gs_ne (by omega)]
      exact (h m hm).1.e
  have hl : (if m = m_mc σ p then m_rn x m - 1 else m_rn x m) < 33 := by
    have := (h m hm).1.l
    have e : m_rn x m = nN (x.1 8 15 m) := rfl
    split <;> omega
  refine ⟨by rw [e15]; exact m_wi hl (by omega), fun k hk => ?_⟩
  have hk2 : k < if m = m_mc σ p then m_rn x m - 1 else m_rn x m := by rw [← er]; exact hk
  have hrm := (h m hm).1.l
  have erm : m_rn x m = nN (x.1 8 15 m) := rfl
  rw [m_takes_at hh hm hm2 (by omega) h33 (fun e => by rw [if_pos e] at hk2; omega)]
  by_cases c : m = m_mc σ p ∧ m_at σ x p ≤ k
  · rw [if_pos c]
    rw [if_pos c.1] at hk2
    exact (h m hm).2 (k + 1) (by omega)
  · rw [if_neg c]
    refine (h m hm).2 k ?_
    by_cases e : m = m_mc σ p
    · rw [if_pos e] at hk2; omega
    · rw [if_neg e] at hk2; omega
set_option maxRecDepth 100000 in
set_option maxHeartbeats 400000 in
theorem n_fnd {G : bp_X} {α : bt_A} {σ x : bt_X} (J : m_J α) {Φ : bp_O → bq_O → Prop} {m p : Nat} (hm : m < 4) : ∀ (n k : Nat), k + n < 33 → (∃ i, k ≤ i ∧ i < k + n ∧ x.1 8 16 (32 * m + i) = nI p) → bq_W G mX6_takes 0 30 [(0, .ref (bt_ad α 6 0)), (1, .int (nI p)), (2, .int (nI m)), (3, .int (nI (m_fnd x m p n k)))] [] (bt α σ x) Φ → bq_W G mX6_takes 0 9 [(0, .ref (bt_ad α 6 0)), (1, .int (nI p)), (2, .int (nI m)), (3, .int (nI k))] [] (bt α σ x) Φ := by
  intro n
  induction n with
  | zero => rintro k hk ⟨i, h1, h2, -⟩; omega
  | succ n ih =>
    rintro k hk ⟨i, h1, h2, h3⟩ kk
    unfold m_fnd at kk
    refine bq_aload_n (i := 0) dX6_takes_9 rfl ?_
    refine bt_get3 (c' := 8) (n := 16) dX6_takes_10 fl_X6_22 (by first | assumption | exact J.v3 | exact J.v4 | exact J.v5 | exact J.v6 | exact J.l0 | exact J.l1 | exact J.l2 | exact J.l3 | exact J.row (by assumption) | exact J.ops (by assumption) | exact J.job (by assumption)) ⟨rfl, rfl, rfl⟩ (by decide) ?_
    refine bq_bipush (v := (nI 32)) dX6_takes_13 (by decide) ?_
    refine bq_iload_n (i := 2) dX6_takes_15 rfl ?_
    refine bq_imul dX6_takes_16 ?_
    refine bq_iload_n (i := 3) dX6_takes_17 rfl ?_
    refine bq_iadd dX6_takes_18 ?_
    refine bt_iald0 (n := 16) (j := (32 * m + k)) dX6_takes_19 J.a16 (by rw [pk_mul, nI_add]) (by omega) (by decide) rfl ?_
    refine bq_iload_n (i := 1) dX6_takes_20 rfl ?_
    refine bq_icmp_eq (tgt := 30) dX6_takes_21 (by decide) (fun c_21 => ?_) (fun c_21 => ?_)
    · rw [if_pos c_21] at kk
      refine bq_lvs (lv' := [(0, .ref (bt_ad α 6 0)), (1, .int (nI p)), (2, .int (nI m)), (3, .int (nI k))]) ⟨rfl, rfl, rfl, rfl, trivial⟩ ?_
      exact kk
    · rw [if_neg c_21] at kk
      have : i ≠ k := fun z => c_21 (by rw [← z]; exact h3)
      refine bq_iinc dX6_takes_24 rfl (by decide) (by first | exact bp_inc _ | rfl) ?_
      refine bq_goto (tgt := 9) dX6_takes_27 (by decide) ?_
      refine bq_lvs (lv' := [(0, .ref (bt_ad α 6 0)), (1, .int (nI p)), (2, .int (nI m)), (3, .int (nI (k + 1)))]) ⟨rfl, rfl, rfl, rfl, trivial⟩ ?_
      exact ih (k + 1) (by omega) ⟨i, by omega, by omega, h3⟩ kk
set_option maxRecDepth 100000 in
set_option maxHeartbeats 400000 in
theorem n_tsh {G : bp_X} {α : bt_A} {σ : bt_X} (J : m_J α) {m p r : Nat} (hm : m < 4) (hr : r < 32) : ∀ (n j : Nat) (x : bt_X), n + j = r → x.1 8 15 m = nI r → bq_W G mX6_takes 0 43 [(0, .ref (bt_ad α 6 0)), (2, .int (nI m)), (4, .int (nI j))] [] (bt α σ x) (bq_ret none (bt α σ (m_tsh m n j x))) := by
  intro n
  induction n with
  | zero =>
    intro j x hj h15
    unfold m_tsh
    refine bq_iload (i := 4) dX6_takes_43 rfl ?_
    refine bq_aload_n (i := 0) dX6_takes_45 rfl ?_
    refine bt_get3 (c' := 8) (n := 15) dX6_takes_46 fl_X6_19 (by first | assumption | exact J.v3 | exact J.v4 | exact J.v5 | exact J.v6 | exact J.l0 | exact J.l1 | exact J.l2 | exact J.l3 | exact J.row (by assumption) | exact J.ops (by assumption) | exact J.job (by assumption)) ⟨rfl, rfl, rfl⟩ (by decide) ?_
    refine bq_iload_n (i := 2) dX6_takes_49 rfl ?_
    refine bt_iald0 (n := 15) (j := m) dX6_takes_50 J.a15 rfl (by omega) (by decide) rfl ?_
    rw [h15]
    refine bq_icmp_ge (tgt := 86) dX6_takes_51 (by decide) (fun c_51 => ?_) (fun z9_ => absurd (show nI r ≤ nI j from nI_le (by omega) (by omega)) z9_)
    exact bq_vret dX6_takes_86 rfl bq_ret_i
  | succ n ih =>
    intro j x hj h15
    unfold m_tsh
    refine bq_iload (i := 4) dX6_takes_43 rfl ?_
    refine bq_aload_n (i := 0) dX6_takes_45 rfl ?_
    refine bt_get3 (c' := 8) (n := 15) dX6_takes_46 fl_X6_19 (by first | assumption | exact J.v3 | exact J.v4 | exact J.v5 | exact J.v6 | exact J.l0 | exact J.l1 | exact J.l2 | exact J.l3 | exact J.row (by assumption) | exact J.ops (by assumption) | exact J.job (by assumption)) ⟨rfl, rfl, rfl⟩ (by decide) ?_
    refine bq_iload_n (i := 2) dX6_takes_49 rfl ?_
    refine bt_iald0 (n := 15) (j := m) dX6_takes_50 J.a15 rfl (by omega) (by decide) rfl ?_
    rw [h15]
    refine bq_icmp_ge (tgt := 86) dX6_takes_51 (by decide) (fun z9_ => absurd z9_ (show ¬ nI r ≤ nI j from nI_ge (by omega) (by omega))) (fun c_51 => ?_)
    refine bq_aload_n (i := 0) dX6_takes_54 rfl ?_
    refine bt_get3 (c' := 8) (n := 16) dX6_takes_55 fl_X6_22 (by first | assumption | exact J.v3 | exact J.v4 | exact J.v5 | exact J.v6 | exact J.l0 | exact J.l1 | exact J.l2 | exact J.l3 | exact J.row (by assumption) | exact J.ops (by assumption) | exact J.job (by assumption)) ⟨rfl, rfl, rfl⟩ (by decide) ?_
    refine bq_bipush (v := (nI 32)) dX6_takes_58 (by decide) ?_
    refine bq_iload_n (i := 2) dX6_takes_60 rfl ?_
    refine bq_imul dX6_takes_61 ?_
    refine bq_iload (i := 4) dX6_takes_62 rfl ?_
    refine bq_iadd dX6_takes_64 ?_
    refine bq_aload_n (i := 0) dX6_takes_65 rfl ?_
    refine bt_get3 (c' := 8) (n := 16) dX6_takes_66 fl_X6_22 (by first | assumption | exact J.v3 | exact J.v4 | exact J.v5 | exact J.v6 | exact J.l0 | exact J.l1 | exact J.l2 | exact J.l3 | exact J.row (by assumption) | exact J.ops (by assumption) | exact J.job (by assumption)) ⟨rfl, rfl, rfl⟩ (by decide) ?_
    refine bq_bipush (v := (nI 32)) dX6_takes_69 (by decide) ?_
    refine bq_iload_n (i := 2) dX6_takes_71 rfl ?_
    refine bq_imul dX6_takes_72 ?_
    refine bq_iload (i := 4) dX6_takes_73 rfl ?_
    refine bq_iadd dX6_takes_75 ?_
    refine bq_iconst (v := (nI 1)) dX6_takes_76 (by decide) ?_
    refine bq_iadd dX6_takes_77 ?_
    refine bt_iald0 (n := 16) (j := (32 * m + j + 1)) dX6_takes_78 J.a16 (by rw [pk_mul, nI_add, nI_add]) (by omega) (by decide) rfl ?_
    refine bt_iast0 (n := 16) (j := (32 * m + j)) dX6_takes_79 J.a16 (by rw [pk_mul, nI_add]) (by omega) (by decide) rfl ?_
    refine bq_iinc dX6_takes_80 rfl (by decide) (by first | exact bp_inc _ | rfl) ?_
    refine bq_goto (tgt := 43) dX6_takes_83 (by decide) ?_
    refine bq_lvs (lv' := [(0, .ref (bt_ad α 6 0)), (2, .int (nI m)), (4, .int (nI (j + 1)))]) ⟨rfl, rfl, rfl, trivial⟩ ?_
    exact ih (j + 1) _ (by omega) (by rw [b_gs_ne (by omega)]; exact h15)
set_option maxRecDepth 100000 in
set_option maxHeartbeats 400000 in
theorem n_takes {G : bp_X} {α : bt_A} {σ x : bt_X} {p : Nat} (J : m_J α) (hK : m_K σ) (hR : m_Rw x) (hp : p < 32) (hh : m_has σ x p) : bq_S G mX6_takes 0 [.ref (bt_ad α 6 0), .int (nI p)] (bt α σ x) (bq_ret none (bt α σ (m_takes σ x p))) := by
  obtain ⟨c1, c2⟩ := m_mc_e hK hp
  obtain ⟨r1, r2⟩ := m_rn_e hR c2
  have ha := (m_at_s hh).1
  unfold m_takes
  refine bq_ofW (by decide +kernel) rfl (Nat.le_of_ble_eq_true rfl) ?_
  refine bq_aload_n (i := 0) dX6_takes_0 rfl ?_
  refine bt_get3 (c' := 8) (n := 21) dX6_takes_1 fl_X6_35 (by first | assumption | exact J.v3 | exact J.v4 | exact J.v5 | exact J.v6 | exact J.l0 | exact J.l1 | exact J.l2 | exact J.l3 | exact J.row (by assumption) | exact J.ops (by assumption) | exact J.job (by assumption)) ⟨rfl, rfl, rfl⟩ (by decide) ?_
  refine bq_iload_n (i := 1) dX6_takes_4 rfl ?_
  refine bt_iald4 (n := 21) (j := p) dX6_takes_5 J.a21 rfl (by omega) (by decide) rfl ?_
  rw [c1]
  refine bq_istore_n (i := 2) dX6_takes_6 (by decide) ?_
  refine bq_iconst (v := (nI 0)) dX6_takes_7 (by decide) ?_
  refine bq_istore_n (i := 3) dX6_takes_8 (by decide) ?_
  refine bq_lvs (lv' := [(0, .ref (bt_ad α 6 0)), (1, .int (nI p)), (2, .int (nI (m_mc σ p))), (3, .int (nI 0))]) ⟨rfl, rfl, rfl, rfl, trivial⟩ ?_
  refine n_fnd J c2 (m_rn x (m_mc σ p)) 0 (by omega) (by obtain ⟨i, h1, h2⟩ := hh; exact ⟨i, by omega, by omega, h2⟩) ?_
  rw [show m_fnd x (m_mc σ p) p (m_rn x (m_mc σ p)) 0 = m_at σ x p from rfl]
  refine bq_aload_n (i := 0) dX6_takes_30 rfl ?_
  refine bt_get3 (c' := 8) (n := 15) dX6_takes_31 fl_X6_19 (by first | assumption | exact J.v3 | exact J.v4 | exact J.v5 | exact J.v6 | exact J.l0 | exact J.l1 | exact J.l2 | exact J.l3 | exact J.row (by assumption) | exact J.ops (by assumption) | exact J.job (by assumption)) ⟨rfl, rfl, rfl⟩ (by decide) ?_
  refine bq_iload_n (i := 2) dX6_takes_34 rfl ?_
  refine bq_dup2 dX6_takes_35 rfl rfl ?_
  refine bt_iald0 (n := 15) (j := (m_mc σ p)) dX6_takes_36 J.a15 rfl (by omega) (by decide) rfl ?_
  rw [r1]
  refine bq_iconst (v := (nI 1)) dX6_takes_37 (by decide) ?_
  refine bq_isub dX6_takes_38 ?_
  rw [pk_sub (by omega)]
  refine bt_iast0 (n := 15) (j := (m_mc σ p)) dX6_takes_39 J.a15 rfl (by omega) (by decide) rfl ?_
  refine bq_iload_n (i := 3) dX6_takes_40 rfl ?_
  refine bq_istore (i := 4) dX6_takes_41 (by decide) ?_
  refine bq_lvs (lv' := [(0, .ref (bt_ad α 6 0)), (2, .int (nI (m_mc σ p))), (4, .int (nI (m_at σ x p)))]) ⟨rfl, rfl, rfl, trivial⟩ ?_
  exact n_tsh J (p := p) c2 (by omega) _ _ _ (by omega) b_gs_at
def m_bars (σ : bt_X) (a : Int32) : Nat := match b_ix (m_nj σ) a with
  | none => 1
  | some j => if σ.1 8 20 j = 0 then (if m_np σ j = 0 then 2 else 0) else 2
theorem m_bars_n {σ : bt_X} {a : Int32} (h : b_ix (m_nj σ) a = none) : m_bars σ a = 1 := by unfold m_bars; rw [h]
theorem m_bars_s {σ : bt_X} {a : Int32} {j : Nat} (h : b_ix (m_nj σ) a = some j) : m_bars σ a = if σ.1 8 20 j = 0 then (if m_np σ j = 0 then 2 else 0) else 2 := by unfold m_bars; rw [h]
set_option maxRecDepth 100000 in
set_option maxHeartbeats 400000 in
theorem n_bars {G : bp_X} {α : bt_A} {σ x : bt_X} {a : Int32} (J : m_J α) (hN : m_Nn σ) : bq_S G mX6_bars 2 [.ref (bt_ad α 6 0), .int a] (bt α σ x) (bq_ret (some (.int (nI (m_bars σ a)))) (bt α σ x)) := by
  refine bq_ofW (by decide +kernel) rfl (Nat.le_of_ble_eq_true rfl) ?_
  cases e1 : b_ix (m_nj σ) a with
  | none =>
    rw [m_bars_n e1]
    refine bq_aload_n (i := 0) dX6_bars_0 rfl ?_
    refine bq_iload_n (i := 1) dX6_bars_1 rfl ?_
    refine bt_callVr (c := 6) (i := 0) dX6_bars_2 rfl ml_X6_127 (by first | assumption | exact J.v3 | exact J.v4 | exact J.v5 | exact J.v6 | exact J.l0 | exact J.l1 | exact J.l2 | exact J.l3 | exact J.row (by assumption) | exact J.ops (by assumption) | exact J.job (by assumption)) (by decide) (n_isJob J hN) (by decide) (by decide) (Nat.le_of_ble_eq_true rfl) rfl ?_
    rw [e1]
    refine bq_if_ne (tgt := 12) dX6_bars_5 (by decide) (fun z9_ => absurd (show m_q none = 0 from rfl) z9_) (fun c_5 => ?_)
    refine bq_iconst (v := (nI 1)) dX6_bars_8 (by decide) ?_
    refine bq_goto (tgt := 35) dX6_bars_9 (by decide) ?_
    exact bq_iret dX6_bars_35 rfl (by first | rfl | decide) bq_ret_i
  | some j =>
    have hb0 : m_nj σ < 9 := by have := hN.2.1.l; exact Nat.lt_of_lt_of_le this (by decide)
    obtain ⟨ea, hmn⟩ := m_ix_e (by omega) e1
    have hj8 := m_nj8 hN hmn
    obtain ⟨g1, g2⟩ := m_np_e hN hj8
    rw [m_bars_s e1]
    subst ea
    refine bq_aload_n (i := 0) dX6_bars_0 rfl ?_
    refine bq_iload_n (i := 1) dX6_bars_1 rfl ?_
    refine bt_callVr (c := 6) (i := 0) dX6_bars_2 rfl ml_X6_127 (by first | assumption | exact J.v3 | exact J.v4 | exact J.v5 | exact J.v6 | exact J.l0 | exact J.l1 | exact J.l2 | exact J.l3 | exact J.row (by assumption) | exact J.ops (by assumption) | exact J.job (by assumption)) (by decide) (n_isJob J hN) (by decide) (by decide) (Nat.le_of_ble_eq_true rfl) rfl ?_
    rw [e1]
    refine bq_if_ne (tgt := 12) dX6_bars_5 (by decide) (fun c_5 => ?_) (fun z9_ => absurd z9_ (show ¬ m_q (some j) = 0 by show ¬ nI 1 = 0; decide))
    refine bq_aload_n (i := 0) dX6_bars_12 rfl ?_
    refine bt_get3 (c' := 8) (n := 20) dX6_bars_13 fl_X6_31 (by first | assumption | exact J.v3 | exact J.v4 | exact J.v5 | exact J.v6 | exact J.l0 | exact J.l1 | exact J.l2 | exact J.l3 | exact J.row (by assumption) | exact J.ops (by assumption) | exact J.job (by assumption)) ⟨rfl, rfl, rfl⟩ (by decide) ?_
    refine bq_iload_n (i := 1) dX6_bars_16 rfl ?_
    refine bt_zald4 (n := 20) (j := j) dX6_bars_17 J.a20 rfl (by omega) (by decide) rfl ?_
    refine bq_if_ne (tgt := 30) dX6_bars_18 (by decide) (fun c_18 => ?_) (fun c_18 => ?_)
    · rw [if_neg c_18]
      refine bq_iconst (v := (nI 2)) dX6_bars_30 (by decide) ?_
      refine bq_goto (tgt := 35) dX6_bars_31 (by decide) ?_
      exact bq_iret dX6_bars_35 rfl (by first | rfl | decide) bq_ret_i
    · rw [if_pos c_18]
      refine bq_aload_n (i := 0) dX6_bars_21 rfl ?_
      refine bt_get3 (c' := 8) (n := 19) dX6_bars_22 fl_X6_28 (by first | assumption | exact J.v3 | exact J.v4 | exact J.v5 | exact J.v6 | exact J.l0 | exact J.l1 | exact J.l2 | exact J.l3 | exact J.row (by assumption) | exact J.ops (by assumption) | exact J.job (by assumption)) ⟨rfl, rfl, rfl⟩ (by decide) ?_
      refine bq_iload_n (i := 1) dX6_bars_25 rfl ?_
      refine bt_iald4 (n := 19) (j := j) dX6_bars_26 J.a19 rfl (by omega) (by decide) rfl ?_
      rw [g1]
      refine bq_if_ne (tgt := 34) dX6_bars_27 (by decide) (fun c_27 => ?_) (fun c_27 => ?_)
      · rw [if_neg (fun z => c_27 (by rw [z]; rfl))]
        refine bq_iconst (v := (nI 0)) dX6_bars_34 (by decide) ?_
        exact bq_iret dX6_bars_35 rfl (by first | rfl | decide) bq_ret_i
      · rw [if_pos (show m_np σ j = 0 from Nat.eq_zero_of_not_pos (fun z => nI_ne0 z (by omega) c_27))]
        refine bq_iconst (v := (nI 2)) dX6_bars_30 (by decide) ?_
        refine bq_goto (tgt := 35) dX6_bars_31 (by decide) ?_
        exact bq_iret dX6_bars_35 rfl (by first | rfl | decide) bq_ret_i
theorem m_bars_c {σ : bt_X} {a : Int32} : m_bars σ a = 1 ∨ m_bars σ a = 2 ∨ (m_bars σ a = 0 ∧ ∃ j, b_ix (m_nj σ) a = some j) := by
  cases h : b_ix (m_nj σ) a with
  | none => exact Or.inl (m_bars_n h)
  | some j =>
    rw [m_bars_s h]
    split
    · split
      · exact Or.inr (Or.inl rfl)
      · exact Or.inr (Or.inr ⟨rfl, j, rfl⟩)
    · exact Or.inr (Or.inl rfl)
/-- how many are placed -/
def m_tot (x : bt_X) : Nat := m_rn x 0 + m_rn x 1 + m_rn x 2 + m_rn x 3
theorem m_tot_le {x : bt_X} {m : Nat} (hm : m < 4) : m_rn x m ≤ m_tot x := by
  unfold m_tot
  rcases (show m = 0 ∨ m = 1 ∨ m = 2 ∨ m = 3 by omega) with rfl | rfl | rfl | rfl <;> omega
theorem m_tot_puts {σ x : bt_X} {p pl : Nat} (hm : m_mc σ p < 4) (h32 : m_rn x (m_mc σ p) < 32) : m_tot (m_puts σ x p pl) = m_tot x + 1 := by
  unfold m_tot
  rw [m_puts_rn h32, m_puts_rn h32, m_puts_rn h32, m_puts_rn h32]
  rcases (show m_mc σ p = 0 ∨ m_mc σ p = 1 ∨ m_mc σ p = 2 ∨ m_mc σ p = 3 by omega) with e | e | e | e <;> rw [e] <;> simp <;> omega
def m_plc (σ : bt_X) (j : Nat) : Nat → Nat → bt_X → bt_X
  | 0, _, x => x
  | n + 1, k, x => m_plc σ j n (k + 1) (m_puts σ x (4 * j + k) (m_rn x (m_mc σ (4 * j + k))))
noncomputable def m_mvd (σ : bt_X) (j : Nat) (v : Int32) (x : bt_X) : m_Rt := (m_spanOf (bt_gs σ 8 20 j v) x, bt_gs σ 8 20 j v, m_wS (bt_gs σ 8 20 j v) x)
noncomputable def m_place (σ x : bt_X) (a : Int32) : m_Rt := if m_bars σ a = 0 then m_mvd σ a.toNatClampNeg (nI 1) (m_plc σ a.toNatClampNeg (m_np σ a.toNatClampNeg) 0 (m_thr x (nI 0))) else (nI 0, σ, m_thr x (nI (m_bars σ a)))
set_option maxRecDepth 100000 in
set_option maxHeartbeats 400000 in
theorem n_plc {G : bp_X} {α : bt_A} {σ : bt_X} (J : m_J α) (hN : m_Nn σ) (hK : m_K σ) {Φ : bp_O → bq_O → Prop} {j : Nat} (hj : j < 8) : ∀ (n k : Nat) (x : bt_X), n + k = m_np σ j → m_Rw x → m_tot x + n ≤ 32 → (m_Rw (m_plc σ j n k x) → bq_W G mX6_place 5 58 [(0, .ref (bt_ad α 6 0)), (1, .int (nI j))] [] (bt α σ (m_plc σ j n k x)) Φ) → bq_W G mX6_place 5 20 [(0, .ref (bt_ad α 6 0)), (1, .int (nI j)), (2, .int (nI k))] [] (bt α σ x) Φ := by
  obtain ⟨g1, g2⟩ := m_np_e hN hj
  intro n
  induction n with
  | zero =>
    intro k x hk hR ht kk
    unfold m_plc at kk
    refine bq_iload_n (i := 2) dX6_place_20 rfl ?_
    refine bq_aload_n (i := 0) dX6_place_21 rfl ?_
    refine bt_get3 (c' := 8) (n := 19) dX6_place_22 fl_X6_28 (by first | assumption | exact J.v3 | exact J.v4 | exact J.v5 | exact J.v6 | exact J.l0 | exact J.l1 | exact J.l2 | exact J.l3 | exact J.row (by assumption) | exact J.ops (by assumption) | exact J.job (by assumption)) ⟨rfl, rfl, rfl⟩ (by decide) ?_
    refine bq_iload_n (i := 1) dX6_place_25 rfl ?_
    refine bt_iald4 (n := 19) (j := j) dX6_place_26 J.a19 rfl (by omega) (by decide) rfl ?_
    rw [g1]
    refine bq_icmp_ge (tgt := 58) dX6_place_27 (by decide) (fun c_27 => ?_) (fun z9_ => absurd (show nI (m_np σ j) ≤ nI k from nI_le (by omega) (by omega)) z9_)
    refine bq_lvs (lv' := [(0, .ref (bt_ad α 6 0)), (1, .int (nI j))]) ⟨rfl, rfl, trivial⟩ ?_
    exact kk hR
  | succ n ih =>
    intro k x hk hR ht kk
    obtain ⟨c1, c2⟩ := m_mc_e hK (show 4 * j + k < 32 by omega)
    obtain ⟨r1, r2⟩ := m_rn_e hR c2
    have h32 : m_rn x (m_mc σ (4 * j + k)) < 32 := by have := m_tot_le (x := x) c2; omega
    unfold m_plc at kk
    refine bq_iload_n (i := 2) dX6_place_20 rfl ?_
    refine bq_aload_n (i := 0) dX6_place_21 rfl ?_
    refine bt_get3 (c' := 8) (n := 19) dX6_place_22 fl_X6_28 (by first | assumption | exact J.v3 | exact J.v4 | exact J.v5 | exact J.v6 | exact J.l0 | exact J.l1 | exact J.l2 | exact J.l3 | exact J.row (by assumption) | exact J.ops (by assumption) | exact J.job (by assumption)) ⟨rfl, rfl, rfl⟩ (by decide) ?_
    refine bq_iload_n (i := 1) dX6_place_25 rfl ?_
    refine bt_iald4 (n := 19) (j := j) dX6_place_26 J.a19 rfl (by omega) (by decide) rfl ?_
    rw [g1]
    refine bq_icmp_ge (tgt := 58) dX6_place_27 (by decide) (fun z9_ => absurd z9_ (show ¬ nI (m_np σ j) ≤ nI k from nI_ge (by omega) (by omega))) (fun c_27 => ?_)
    refine bq_iconst (v := (nI 4)) dX6_place_30 (by decide) ?_
    refine bq_iload_n (i := 1) dX6_place_31 rfl ?_
    refine bq_imul dX6_place_32 ?_
    refine bq_iload_n (i := 2) dX6_place_33 rfl ?_
    refine bq_iadd dX6_place_34 ?_
    rw [pk_mul, nI_add]
    refine bq_istore_n (i := 3) dX6_place_35 (by decide) ?_
    refine bq_aload_n (i := 0) dX6_place_36 rfl ?_
    refine bq_iload_n (i := 3) dX6_place_37 rfl ?_
    refine bq_aload_n (i := 0) dX6_place_38 rfl ?_
    refine bt_get3 (c' := 8) (n := 15) dX6_place_39 fl_X6_19 (by first | assumption | exact J.v3 | exact J.v4 | exact J.v5 | exact J.v6 | exact J.l0 | exact J.l1 | exact J.l2 | exact J.l3 | exact J.row (by assumption) | exact J.ops (by assumption) | exact J.job (by assumption)) ⟨rfl, rfl, rfl⟩ (by decide) ?_
    refine bq_aload_n (i := 0) dX6_place_42 rfl ?_
    refine bt_get3 (c' := 8) (n := 21) dX6_place_43 fl_X6_35 (by first | assumption | exact J.v3 | exact J.v4 | exact J.v5 | exact J.v6 | exact J.l0 | exact J.l1 | exact J.l2 | exact J.l3 | exact J.row (by assumption) | exact J.ops (by assumption) | exact J.job (by assumption)) ⟨rfl, rfl, rfl⟩ (by decide) ?_
    refine bq_iload_n (i := 3) dX6_place_46 rfl ?_
    refine bt_iald4 (n := 21) (j := (4 * j + k)) dX6_place_47 J.a21 rfl (by omega) (by decide) rfl ?_
    rw [c1]
    refine bt_iald0 (n := 15) (j := (m_mc σ (4 * j + k))) dX6_place_48 J.a15 rfl (by omega) (by decide) rfl ?_
    rw [r1]
    refine bt_callVr (c := 6) (i := 0) dX6_place_49 rfl ml_X6_136 (by first | assumption | exact J.v3 | exact J.v4 | exact J.v5 | exact J.v6 | exact J.l0 | exact J.l1 | exact J.l2 | exact J.l3 | exact J.row (by assumption) | exact J.ops (by assumption) | exact J.job (by assumption)) (by decide) (n_puts J hK hR (by omega) (Nat.le_refl _) h32) (by decide) (by decide) (Nat.le_of_ble_eq_true rfl) rfl ?_
    refine bq_iinc dX6_place_52 rfl (by decide) (by first | exact bp_inc _ | rfl) ?_
    refine bq_goto (tgt := 20) dX6_place_55 (by decide) ?_
    refine bq_lvs (lv' := [(0, .ref (bt_ad α 6 0)), (1, .int (nI j)), (2, .int (nI (k + 1)))]) ⟨rfl, rfl, rfl, trivial⟩ ?_
    exact ih (k + 1) _ (by omega) (hR.puts (by omega) c2 (Nat.le_refl _) h32) (by rw [m_tot_puts c2 h32]; omega) kk
theorem m_Rw.gs8 {x : bt_X} (h : m_Rw x) {i k : Nat} {v : Int32} (hi : i ≠ 15 ∧ i ≠ 16) : m_Rw (bt_gs x 8 i k v) := h.ext (fun i' k' hi' => b_gs_ne (by omega))
theorem m_rn_thr' {x : bt_X} {v : Int32} : m_tot (m_thr x v) = m_tot x := by unfold m_tot; rw [m_rn_thr, m_rn_thr, m_rn_thr, m_rn_thr]
set_option maxRecDepth 100000 in
set_option maxHeartbeats 400000 in
theorem n_place {G : bp_X} {α : bt_A} {σ x : bt_X} {a : Int32} (J : m_J α) (hN : m_Nn σ) (hK : m_K σ) (hR : m_Rw x) (hcap : m_bars σ a = 0 → ∀ j, b_ix (m_nj σ) a = some j → m_tot x + m_np σ j ≤ 32) : bq_S G mX6_place 5 [.ref (bt_ad α 6 0), .int a] (bt α σ x) (bq_ret (some (.int (m_place σ x a).1)) (bt α (m_place σ x a).2.1 (m_place σ x a).2.2)) := by
  refine bq_ofW (by decide +kernel) rfl (Nat.le_of_ble_eq_true rfl) ?_
  rcases m_bars_c (σ := σ) (a := a) with e0 | e0 | ⟨e0, j, e1⟩
  · rw [show m_place σ x a = (nI 0, σ, m_thr x (nI 1)) by unfold m_place; rw [if_neg (by omega), e0]]
    refine bq_aload_n (i := 0) dX6_place_0 rfl ?_
    refine bq_aload_n (i := 0) dX6_place_1 rfl ?_
    refine bq_iload_n (i := 1) dX6_place_2 rfl ?_
    refine bt_callVr (c := 6) (i := 0) dX6_place_3 rfl ml_X6_133 (by first | assumption | exact J.v3 | exact J.v4 | exact J.v5 | exact J.v6 | exact J.l0 | exact J.l1 | exact J.l2 | exact J.l3 | exact J.row (by assumption) | exact J.ops (by assumption) | exact J.job (by assumption)) (by decide) (n_bars J hN) (by decide) (by decide) (Nat.le_of_ble_eq_true rfl) rfl ?_
    rw [e0]
    refine bt_put0 dX6_place_6 fl_X6_74 (by first | assumption | exact J.v3 | exact J.v4 | exact J.v5 | exact J.v6 | exact J.l0 | exact J.l1 | exact J.l2 | exact J.l3 | exact J.row (by assumption) | exact J.ops (by assumption) | exact J.job (by assumption)) rfl (by decide) (by first | rfl | decide) (by first | rfl | decide) ?_
    refine bq_aload_n (i := 0) dX6_place_9 rfl ?_
    refine bt_get0 dX6_place_10 fl_X6_74 (by first | assumption | exact J.v3 | exact J.v4 | exact J.v5 | exact J.v6 | exact J.l0 | exact J.l1 | exact J.l2 | exact J.l3 | exact J.row (by assumption) | exact J.ops (by assumption) | exact J.job (by assumption)) rfl (by decide) ?_
    rw [b_gs_at]
    refine bq_if_le (tgt := 18) dX6_place_13 (by decide) (fun z9_ => absurd z9_ (show ¬ nI 1 ≤ 0 by decide)) (fun c_13 => ?_)
    refine bq_iconst (v := (nI 0)) dX6_place_16 (by decide) ?_
    exact bq_iret dX6_place_17 rfl (by first | rfl | decide) bq_ret_i
  · rw [show m_place σ x a = (nI 0, σ, m_thr x (nI 2)) by unfold m_place; rw [if_neg (by omega), e0]]
    refine bq_aload_n (i := 0) dX6_place_0 rfl ?_
    refine bq_aload_n (i := 0) dX6_place_1 rfl ?_
    refine bq_iload_n (i := 1) dX6_place_2 rfl ?_
    refine bt_callVr (c := 6) (i := 0) dX6_place_3 rfl ml_X6_133 (by first | assumption | exact J.v3 | exact J.v4 | exact J.v5 | exact J.v6 | exact J.l0 | exact J.l1 | exact J.l2 | exact J.l3 | exact J.row (by assumption) | exact J.ops (by assumption) | exact J.job (by assumption)) (by decide) (n_bars J hN) (by decide) (by decide) (Nat.le_of_ble_eq_true rfl) rfl ?_
    rw [e0]
    refine bt_put0 dX6_place_6 fl_X6_74 (by first | assumption | exact J.v3 | exact J.v4 | exact J.v5 | exact J.v6 | exact J.l0 | exact J.l1 | exact J.l2 | exact J.l3 | exact J.row (by assumption) | exact J.ops (by assumption) | exact J.job (by assumption)) rfl (by decide) (by first | rfl | decide) (by first | rfl | decide) ?_
    refine bq_aload_n (i := 0) dX6_place_9 rfl ?_
    refine bt_get0 dX6_place_10 fl_X6_74 (by first | assumption | exact J.v3 | exact J.v4 | exact J.v5 | exact J.v6 | exact J.l0 | exact J.l1 | exact J.l2 | exact J.l3 | exact J.row (by assumption) | exact J.ops (by assumption) | exact J.job (by assumption)) rfl (by decide) ?_
    rw [b_gs_at]
    refine bq_if_le (tgt := 18) dX6_place_13 (by decide) (fun z9_ => absurd z9_ (show ¬ nI 2 ≤ 0 by decide)) (fun c_13 => ?_)
    refine bq_iconst (v := (nI 0)) dX6_place_16 (by decide) ?_
    exact bq_iret dX6_place_17 rfl (by first | rfl | decide) bq_ret_i
  · have hj9 : m_nj σ < 9 := hN.2.1.l
    obtain ⟨ea, hjn⟩ := m_ix_e (by omega) e1
    have hj8 := m_nj8 hN hjn
    rw [show m_place σ x a = m_mvd σ a.toNatClampNeg (nI 1) (m_plc σ a.toNatClampNeg (m_np σ a.toNatClampNeg) 0 (m_thr x (nI 0))) by unfold m_place; rw [if_pos e0]]
    subst ea
    rw [nI_clamp (show j < 2 ^ 31 by omega)]
    refine bq_aload_n (i := 0) dX6_place_0 rfl ?_
    refine bq_aload_n (i := 0) dX6_place_1 rfl ?_
    refine bq_iload_n (i := 1) dX6_place_2 rfl ?_
    refine bt_callVr (c := 6) (i := 0) dX6_place_3 rfl ml_X6_133 (by first | assumption | exact J.v3 | exact J.v4 | exact J.v5 | exact J.v6 | exact J.l0 | exact J.l1 | exact J.l2 | exact J.l3 | exact J.row (by assumption) | exact J.ops (by assumption) | exact J.job (by assumption)) (by decide) (n_bars J hN) (by decide) (by decide) (Nat.le_of_ble_eq_true rfl) rfl ?_
    rw [e0]
    refine bt_put0 dX6_place_6 fl_X6_74 (by first | assumption | exact J.v3 | exact J.v4 | exact J.v5 | exact J.v6 | exact J.l0 | exact J.l1 | exact J.l2 | exact J.l3 | exact J.row (by assumption) | exact J.ops (by assumption) | exact J.job (by assumption)) rfl (by decide) (by first | rfl | decide) (by first | rfl | decide) ?_
    refine bq_aload_n (i := 0) dX6_place_9 rfl ?_
    refine bt_get0 dX6_place_10 fl_X6_74 (by first | assumption | exact J.v3 | exact J.v4 | exact J.v5 | exact J.v6 | exact J.l0 | exact J.l1 | exact J.l2 | exact J.l3 | exact J.row (by assumption) | exact J.ops (by assumption) | exact J.job (by assumption)) rfl (by decide) ?_
    rw [b_gs_at]
    refine bq_if_le (tgt := 18) dX6_place_13 (by decide) (fun c_13 => ?_) (fun z9_ => absurd (show nI 0 ≤ 0 by decide) z9_)
    refine bq_iconst (v := (nI 0)) dX6_place_18 (by decide) ?_
    refine bq_istore_n (i := 2) dX6_place_19 (by decide) ?_
    refine bq_lvs (lv' := [(0, .ref (bt_ad α 6 0)), (1, .int (nI j)), (2, .int (nI 0))]) ⟨rfl, rfl, rfl, trivial⟩ ?_
    refine n_plc J hN hK hj8 (m_np σ j) 0 _ rfl hR.thr (by show m_tot (m_thr x (nI 0)) + _ ≤ 32; rw [m_rn_thr']; exact hcap e0 j e1) (fun hR2 => ?_)
    refine bq_aload_n (i := 0) dX6_place_58 rfl ?_
    refine bt_get3 (c' := 8) (n := 20) dX6_place_59 fl_X6_31 (by first | assumption | exact J.v3 | exact J.v4 | exact J.v5 | exact J.v6 | exact J.l0 | exact J.l1 | exact J.l2 | exact J.l3 | exact J.row (by assumption) | exact J.ops (by assumption) | exact J.job (by assumption)) ⟨rfl, rfl, rfl⟩ (by decide) ?_
    refine bq_iload_n (i := 1) dX6_place_62 rfl ?_
    refine bq_iconst (v := (nI 1)) dX6_place_63 (by decide) ?_
    refine bt_zast4 (n := 20) (j := j) dX6_place_64 J.a20 rfl (by omega) (by decide) rfl (by first | rfl | decide) ?_
    refine bq_aload_n (i := 0) dX6_place_65 rfl ?_
    refine bt_callVr (c := 6) (i := 0) dX6_place_66 rfl ml_X6_113 (by first | assumption | exact J.v3 | exact J.v4 | exact J.v5 | exact J.v6 | exact J.l0 | exact J.l1 | exact J.l2 | exact J.l3 | exact J.row (by assumption) | exact J.ops (by assumption) | exact J.job (by assumption)) (by decide) (n_spanOf J (hN.gs (by omega)) (hK.gs (by omega)) hR2) (by decide) (by decide) (Nat.le_of_ble_eq_true rfl) rfl ?_
    exact bq_iret dX6_place_69 rfl (by first | rfl | decide) bq_ret_i
noncomputable def m_tsp (σ x : bt_X) (p k : Nat) : Int32 := m_span σ (m_wS σ (m_puts σ x p k))
noncomputable def m_tst (σ x : bt_X) (p k : Nat) : Int32 := (m_wS σ (m_puts σ x p k)).1 8 29 p
noncomputable def m_tsx (σ x : bt_X) (p k : Nat) : bt_X := m_takes σ (m_wS σ (m_puts σ x p k)) p
noncomputable def m_less (σ x : bt_X) (p k : Nat) (b : Option Nat) (s t : Int32) : Int32 := match b with
  | none => nI 1
  | some _ => if m_tsp σ x p k < s then nI 1 else if m_tsp σ x p k = s then (if t ≤ m_tst σ x p k then nI 0 else nI 1) else nI 0
/-- the best place, its span and start, and the state behind the trials -/
noncomputable def m_try (σ : bt_X) (p : Nat) : Nat → Nat → bt_X → Option Nat → Int32 → Int32 → Option Nat × bt_X
  | 0, _, x, b, _, _ => (b, x)
  | n + 1, k, x, b, s, t => if m_wOk σ (m_puts σ x p k) = 0 then m_try σ p n (k + 1) (m_tsx σ x p k) b s t
      else if m_less σ x p k b s t = 0 then m_try σ p n (k + 1) (m_tsx σ x p k) b s t
      else m_try σ p n (k + 1) (m_tsx σ x p k) (some k) (m_tsp σ x p k) (m_tst σ x p k)
noncomputable def m_tr (σ x : bt_X) (p : Nat) : Option Nat × bt_X := m_try σ p (m_rn x (m_mc σ p) + 1) 0 x none (nI 0) (nI 0)
noncomputable def m_rsh1 (σ x : bt_X) (p : Nat) : bt_X := m_puts σ (m_tr σ x p).2 p ((m_tr σ x p).1.getD 0)
theorem m_works_Rw {σ x : bt_X} (hR : m_Rw x) : m_Rw (m_wS σ x) := hR.ext (fun i k hi => m_works_n (by omega))
theorem m_works_rn {σ x : bt_X} {m : Nat} : m_rn (m_wS σ x) m = m_rn x m := by unfold m_rn; rw [m_works_n (by omega)]
theorem m_tsx_has {σ x : bt_X} {p k : Nat} (hm : m_mc σ p < 4) (hk : k ≤ m_rn x (m_mc σ p)) (h32 : m_rn x (m_mc σ p) < 32) : m_has σ (m_wS σ (m_puts σ x p k)) p := by
  refine ⟨k, by rw [m_works_rn, m_puts_rn h32, if_pos rfl]; omega, ?_⟩
  rw [m_works_n (by omega), m_puts_at hk hm hm (by omega) h32, if_pos rfl, if_pos rfl]
theorem m_tsx_Rw {σ x : bt_X} (hR : m_Rw x) {p k : Nat} (hp : p < 32) (hm : m_mc σ p < 4) (hk : k ≤ m_rn x (m_mc σ p)) (h32 : m_rn x (m_mc σ p) < 32) : m_Rw (m_tsx σ x p k) :=
  (m_works_Rw (hR.puts hp hm hk h32)).takes hm (m_tsx_has hm hk h32)
theorem m_tsx_rn {σ x : bt_X} {p k m : Nat} (h32 : m_rn x (m_mc σ p) < 32) : m_rn (m_tsx σ x p k) m = m_rn x m := by
  unfold m_tsx
  rw [m_takes_rn (by rw [m_works_rn, m_puts_rn h32, if_pos rfl]; omega), m_works_rn, m_puts_rn h32]
  split
  · omega
  · rfl
set_option maxRecDepth 100000 in
set_option maxHeartbeats 400000 in
theorem n_try {G : bp_X} {α : bt_A} {σ : bt_X} (J : m_J α) (hN : m_Nn σ) (hK : m_K σ) {Φ : bp_O → bq_O → Prop} {p r : Nat} (hp : p < 32) (hr : r < 32) : ∀ (n k : Nat) (x : bt_X) (b : Option Nat) (s t : Int32), n + k = r + 1 → r = m_rn x (m_mc σ p) → m_Rw x → (∀ q, b = some q → q ≤ r) →
    (m_Rw (m_try σ p n k x b s t).2 → m_rn (m_try σ p n k x b s t).2 (m_mc σ p) = r → (∀ q, (m_try σ p n k x b s t).1 = some q → q ≤ r) → bq_W G mX6_rushes 4 119 [(0, .ref (bt_ad α 6 0)), (1, .int (nI p)), (2, .int (m_oi (m_try σ p n k x b s t).1))] [] (bt α σ (m_try σ p n k x b s t).2) Φ) → bq_W G mX6_rushes 4 23 [(0, .ref (bt_ad α 6 0)), (1, .int (nI p)), (2, .int (m_oi b)), (3, .int s), (4, .int t), (5, .int (nI r)), (6, .int (nI k))] [] (bt α σ x) Φ := by
  obtain ⟨c1, c2⟩ := m_mc_e hK hp
  intro n
  induction n with
  | zero =>
    intro k x b s t hk hrx hR hb kk
    unfold m_try at kk
    refine bq_iload (i := 6) dX6_rushes_23 rfl ?_
    refine bq_iload (i := 5) dX6_rushes_25 rfl ?_
    refine bq_icmp_gt (tgt := 119) dX6_rushes_27 (by decide) (fun c_27 => ?_) (fun z9_ => absurd (show nI r < nI k from nI_lt (by omega) (by omega)) z9_)
    refine bq_lvs (lv' := [(0, .ref (bt_ad α 6 0)), (1, .int (nI p)), (2, .int (m_oi b))]) ⟨rfl, rfl, rfl, trivial⟩ ?_
    exact kk hR hrx.symm hb
  | succ n ih =>
    intro k x b s t hk hrx hR hb kk
    have h32 : m_rn x (m_mc σ p) < 32 := by omega
    have hkr : k ≤ m_rn x (m_mc σ p) := by omega
    have hRp := hR.puts hp c2 hkr h32
    have hh := m_tsx_has c2 hkr h32
    have hR2 := m_tsx_Rw hR hp c2 hkr h32
    have hr2 : r = m_rn (m_tsx σ x p k) (m_mc σ p) := by rw [m_tsx_rn h32]; exact hrx
    have fin : ∀ (v its st : Int32), its = m_tsp σ x p k → st = m_tst σ x p k → v = m_less σ x p k b s t → bq_W G mX6_rushes 4 82 [(0, .ref (bt_ad α 6 0)), (1, .int (nI p)), (2, .int (m_oi b)), (3, .int s), (4, .int t), (5, .int (nI r)), (6, .int (nI k)), (7, .int (m_wOk σ (m_puts σ x p k))), (8, .int its)] [.int v] (bt α σ (m_wS σ (m_puts σ x p k))) Φ := by
      intro v its st e1 e2 e3
      subst e1
      subst e2
      subst e3
      unfold m_try at kk
      refine bq_istore (i := 9) dX6_rushes_82 (by decide) ?_
      refine bq_iload (i := 7) dX6_rushes_84 rfl ?_
      refine bq_if_eq (tgt := 108) dX6_rushes_86 (by decide) (fun c_86 => ?_) (fun c_86 => ?_)
      · rw [if_pos c_86] at kk
        refine bq_aload_n (i := 0) dX6_rushes_108 rfl ?_
        refine bq_iload_n (i := 1) dX6_rushes_109 rfl ?_
        refine bt_callVr (c := 6) (i := 0) dX6_rushes_110 rfl ml_X6_140 (by first | assumption | exact J.v3 | exact J.v4 | exact J.v5 | exact J.v6 | exact J.l0 | exact J.l1 | exact J.l2 | exact J.l3 | exact J.row (by assumption) | exact J.ops (by assumption) | exact J.job (by assumption)) (by decide) (n_takes J hK (m_works_Rw hRp) hp hh) (by decide) (by decide) (Nat.le_of_ble_eq_true rfl) rfl ?_
        refine bq_iinc dX6_rushes_113 rfl (by decide) (by first | exact bp_inc _ | rfl) ?_
        first
          | (refine bq_goto (tgt := 23) dX6_rushes_116 (by decide) ?_
             refine bq_lvs (lv' := [(0, .ref (bt_ad α 6 0)), (1, .int (nI p)), (2, .int (m_oi b)), (3, .int s), (4, .int t), (5, .int (nI r)), (6, .int (nI (k + 1)))]) ⟨rfl, rfl, rfl, rfl, rfl, rfl, rfl, trivial⟩ ?_
             exact ih (k + 1) _ _ _ _ (by omega) hr2 hR2 hb kk)
          | (refine bq_goto (tgt := 23) dX6_rushes_116 (by decide) ?_
             refine bq_lvs (lv' := [(0, .ref (bt_ad α 6 0)), (1, .int (nI p)), (2, .int (m_oi (some k))), (3, .int (m_tsp σ x p k)), (4, .int (m_tst σ x p k)), (5, .int (nI r)), (6, .int (nI (k + 1)))]) ⟨rfl, rfl, rfl, rfl, rfl, rfl, rfl, trivial⟩ ?_
             exact ih (k + 1) _ _ _ _ (by omega) hr2 hR2 (fun q hq => by cases hq; omega) kk)
      · rw [if_neg c_86] at kk
        refine bq_iload (i := 9) dX6_rushes_89 rfl ?_
        refine bq_if_eq (tgt := 108) dX6_rushes_91 (by decide) (fun c_91 => ?_) (fun c_91 => ?_)
        · rw [if_pos c_91] at kk
          refine bq_aload_n (i := 0) dX6_rushes_108 rfl ?_
          refine bq_iload_n (i := 1) dX6_rushes_109 rfl ?_
          refine bt_callVr (c := 6) (i := 0) dX6_rushes_110 rfl ml_X6_140 (by first | assumption | exact J.v3 | exact J.v4 | exact J.v5 | exact J.v6 | exact J.l0 | exact J.l1 | exact J.l2 | exact J.l3 | exact J.row (by assumption) | exact J.ops (by assumption) | exact J.job (by assumption)) (by decide) (n_takes J hK (m_works_Rw hRp) hp hh) (by decide) (by decide) (Nat.le_of_ble_eq_true rfl) rfl ?_
          refine bq_iinc dX6_rushes_113 rfl (by decide) (by first | exact bp_inc _ | rfl) ?_
          first
            | (refine bq_goto (tgt := 23) dX6_rushes_116 (by decide) ?_
               refine bq_lvs (lv' := [(0, .ref (bt_ad α 6 0)), (1, .int (nI p)), (2, .int (m_oi b)), (3, .int s), (4, .int t), (5, .int (nI r)), (6, .int (nI (k + 1)))]) ⟨rfl, rfl, rfl, rfl, rfl, rfl, rfl, trivial⟩ ?_
               exact ih (k + 1) _ _ _ _ (by omega) hr2 hR2 hb kk)
            | (refine bq_goto (tgt := 23) dX6_rushes_116 (by decide) ?_
               refine bq_lvs (lv' := [(0, .ref (bt_ad α 6 0)), (1, .int (nI p)), (2, .int (m_oi (some k))), (3, .int (m_tsp σ x p k)), (4, .int (m_tst σ x p k)), (5, .int (nI r)), (6, .int (nI (k + 1)))]) ⟨rfl, rfl, rfl, rfl, rfl, rfl, rfl, trivial⟩ ?_
               exact ih (k + 1) _ _ _ _ (by omega) hr2 hR2 (fun q hq => by cases hq; omega) kk)
        · rw [if_neg c_91] at kk
          refine bq_iload (i := 6) dX6_rushes_94 rfl ?_
          refine bq_istore_n (i := 2) dX6_rushes_96 (by decide) ?_
          refine bq_iload (i := 8) dX6_rushes_97 rfl ?_
          refine bq_istore_n (i := 3) dX6_rushes_99 (by decide) ?_
          refine bq_aload_n (i := 0) dX6_rushes_100 rfl ?_
          refine bt_get3 (c' := 8) (n := 29) dX6_rushes_101 fl_X6_59 (by first | assumption | exact J.v3 | exact J.v4 | exact J.v5 | exact J.v6 | exact J.l0 | exact J.l1 | exact J.l2 | exact J.l3 | exact J.row (by assumption) | exact J.ops (by assumption) | exact J.job (by assumption)) ⟨rfl, rfl, rfl⟩ (by decide) ?_
          refine bq_iload_n (i := 1) dX6_rushes_104 rfl ?_
          refine bt_iald0 (n := 29) (j := p) dX6_rushes_105 J.a29 rfl (by omega) (by decide) rfl ?_
          refine bq_istore (i := 4) dX6_rushes_106 (by decide) ?_
          refine bq_aload_n (i := 0) dX6_rushes_108 rfl ?_
          refine bq_iload_n (i := 1) dX6_rushes_109 rfl ?_
          refine bt_callVr (c := 6) (i := 0) dX6_rushes_110 rfl ml_X6_140 (by first | assumption | exact J.v3 | exact J.v4 | exact J.v5 | exact J.v6 | exact J.l0 | exact J.l1 | exact J.l2 | exact J.l3 | exact J.row (by assumption) | exact J.ops (by assumption) | exact J.job (by assumption)) (by decide) (n_takes J hK (m_works_Rw hRp) hp hh) (by decide) (by decide) (Nat.le_of_ble_eq_true rfl) rfl ?_
          refine bq_iinc dX6_rushes_113 rfl (by decide) (by first | exact bp_inc _ | rfl) ?_
          first
            | (refine bq_goto (tgt := 23) dX6_rushes_116 (by decide) ?_
               refine bq_lvs (lv' := [(0, .ref (bt_ad α 6 0)), (1, .int (nI p)), (2, .int (m_oi b)), (3, .int s), (4, .int t), (5, .int (nI r)), (6, .int (nI (k + 1)))]) ⟨rfl, rfl, rfl, rfl, rfl, rfl, rfl, trivial⟩ ?_
               exact ih (k + 1) _ _ _ _ (by omega) hr2 hR2 hb kk)
            | (refine bq_goto (tgt := 23) dX6_rushes_116 (by decide) ?_
               refine bq_lvs (lv' := [(0, .ref (bt_ad α 6 0)), (1, .int (nI p)), (2, .int (m_oi (some k))), (3, .int (m_tsp σ x p k)), (4, .int (m_tst σ x p k)), (5, .int (nI r)), (6, .int (nI (k + 1)))]) ⟨rfl, rfl, rfl, rfl, rfl, rfl, rfl, trivial⟩ ?_
               exact ih (k + 1) _ _ _ _ (by omega) hr2 hR2 (fun q hq => by cases hq; omega) kk)
    clear kk ih
    cases b with
    | none =>
      refine bq_iload (i := 6) dX6_rushes_23 rfl ?_
      refine bq_iload (i := 5) dX6_rushes_25 rfl ?_
      refine bq_icmp_gt (tgt := 119) dX6_rushes_27 (by decide) (fun z9_ => absurd z9_ (show ¬ nI r < nI k from nI_nlt (by omega) (by omega))) (fun c_27 => ?_)
      refine bq_aload_n (i := 0) dX6_rushes_30 rfl ?_
      refine bq_iload_n (i := 1) dX6_rushes_31 rfl ?_
      refine bq_iload (i := 6) dX6_rushes_32 rfl ?_
      refine bt_callVr (c := 6) (i := 0) dX6_rushes_34 rfl ml_X6_136 (by first | assumption | exact J.v3 | exact J.v4 | exact J.v5 | exact J.v6 | exact J.l0 | exact J.l1 | exact J.l2 | exact J.l3 | exact J.row (by assumption) | exact J.ops (by assumption) | exact J.job (by assumption)) (by decide) (n_puts J hK hR hp hkr h32) (by decide) (by decide) (Nat.le_of_ble_eq_true rfl) rfl ?_
      refine bq_aload_n (i := 0) dX6_rushes_37 rfl ?_
      refine bt_callVr (c := 6) (i := 0) dX6_rushes_38 rfl ml_X6_105 (by first | assumption | exact J.v3 | exact J.v4 | exact J.v5 | exact J.v6 | exact J.l0 | exact J.l1 | exact J.l2 | exact J.l3 | exact J.row (by assumption) | exact J.ops (by assumption) | exact J.job (by assumption)) (by decide) (n_works J hN hK hRp) (by decide) (by decide) (Nat.le_of_ble_eq_true rfl) rfl ?_
      refine bq_istore (i := 7) dX6_rushes_41 (by decide) ?_
      refine bq_aload_n (i := 0) dX6_rushes_43 rfl ?_
      refine bt_callVr (c := 6) (i := 0) dX6_rushes_44 rfl ml_X6_109 (by first | assumption | exact J.v3 | exact J.v4 | exact J.v5 | exact J.v6 | exact J.l0 | exact J.l1 | exact J.l2 | exact J.l3 | exact J.row (by assumption) | exact J.ops (by assumption) | exact J.job (by assumption)) (by decide) (n_span J) (by decide) (by decide) (Nat.le_of_ble_eq_true rfl) rfl ?_
      refine bq_istore (i := 8) dX6_rushes_47 (by decide) ?_
      refine bq_iload_n (i := 2) dX6_rushes_49 rfl ?_
      refine bq_iconst (v := (-1 : Int32)) dX6_rushes_50 (by decide) ?_
      refine bq_icmp_eq (tgt := 77) dX6_rushes_51 (by decide) (fun c_51 => ?_) (fun z9_ => absurd (show m_oi none = (-1 : Int32) from rfl) z9_)
      refine bq_iconst (v := (nI 1)) dX6_rushes_77 (by decide) ?_
      refine bq_goto (tgt := 82) dX6_rushes_78 (by decide) ?_
      refine bq_lvs (lv' := [(0, .ref (bt_ad α 6 0)), (1, .int (nI p)), (2, .int (m_oi none)), (3, .int s), (4, .int t), (5, .int (nI r)), (6, .int (nI k)), (7, .int (m_wOk σ (m_puts σ x p k))), (8, .int (m_tsp σ x p k))]) ⟨rfl, rfl, rfl, rfl, rfl, rfl, rfl, rfl, rfl, trivial⟩ ?_
      exact fin _ _ _ rfl rfl rfl
    | some q0 =>
      have hq0 := hb q0 rfl
      refine bq_iload (i := 6) dX6_rushes_23 rfl ?_
      refine bq_iload (i := 5) dX6_rushes_25 rfl ?_
      refine bq_icmp_gt (tgt := 119) dX6_rushes_27 (by decide) (fun z9_ => absurd z9_ (show ¬ nI r < nI k from nI_nlt (by omega) (by omega))) (fun c_27 => ?_)
      refine bq_aload_n (i := 0) dX6_rushes_30 rfl ?_
      refine bq_iload_n (i := 1) dX6_rushes_31 rfl ?_
      refine bq_iload (i := 6) dX6_rushes_32 rfl ?_
      refine bt_callVr (c := 6) (i := 0) dX6_rushes_34 rfl ml_X6_136 (by first | assumption | exact J.v3 | exact J.v4 | exact J.v5 | exact J.v6 | exact J.l0 | exact J.l1 | exact J.l2 | exact J.l3 | exact J.row (by assumption) | exact J.ops (by assumption) | exact J.job (by assumption)) (by decide) (n_puts J hK hR hp hkr h32) (by decide) (by decide) (Nat.le_of_ble_eq_true rfl) rfl ?_
      refine bq_aload_n (i := 0) dX6_rushes_37 rfl ?_
      refine bt_callVr (c := 6) (i := 0) dX6_rushes_38 rfl ml_X6_105 (by first | assumption | exact J.v3 | exact J.v4 | exact J.v5 | exact J.v6 | exact J.l0 | exact J.l1 | exact J.l2 | exact J.l3 | exact J.row (by assumption) | exact J.ops (by assumption) | exact J.job (by assumption)) (by decide) (n_works J hN hK hRp) (by decide) (by decide) (Nat.le_of_ble_eq_true rfl) rfl ?_
      refine bq_istore (i := 7) dX6_rushes_41 (by decide) ?_
      refine bq_aload_n (i := 0) dX6_rushes_43 rfl ?_
      refine bt_callVr (c := 6) (i := 0) dX6_rushes_44 rfl ml_X6_109 (by first | assumption | exact J.v3 | exact J.v4 | exact J.v5 | exact J.v6 | exact J.l0 | exact J.l1 | exact J.l2 | exact J.l3 | exact J.row (by assumption) | exact J.ops (by assumption) | exact J.job (by assumption)) (by decide) (n_span J) (by decide) (by decide) (Nat.le_of_ble_eq_true rfl) rfl ?_
      refine bq_istore (i := 8) dX6_rushes_47 (by decide) ?_
      refine bq_iload_n (i := 2) dX6_rushes_49 rfl ?_
      refine bq_iconst (v := (-1 : Int32)) dX6_rushes_50 (by decide) ?_
      refine bq_icmp_eq (tgt := 77) dX6_rushes_51 (by decide) (fun z9_ => absurd z9_ (show ¬ m_oi (some q0) = (-1 : Int32) from m_nI_ne (by omega))) (fun c_51 => ?_)
      refine bq_iload (i := 8) dX6_rushes_54 rfl ?_
      refine bq_iload_n (i := 3) dX6_rushes_56 rfl ?_
      refine bq_icmp_lt (tgt := 77) dX6_rushes_57 (by decide) (fun c_57 => ?_) (fun c_57 => ?_)
      · refine bq_iconst (v := (nI 1)) dX6_rushes_77 (by decide) ?_
        refine bq_goto (tgt := 82) dX6_rushes_78 (by decide) ?_
        refine bq_lvs (lv' := [(0, .ref (bt_ad α 6 0)), (1, .int (nI p)), (2, .int (m_oi (some q0))), (3, .int s), (4, .int t), (5, .int (nI r)), (6, .int (nI k)), (7, .int (m_wOk σ (m_puts σ x p k))), (8, .int (m_tsp σ x p k))]) ⟨rfl, rfl, rfl, rfl, rfl, rfl, rfl, rfl, rfl, trivial⟩ ?_
        exact fin _ _ _ rfl rfl ((if_pos c_57).symm)
      · refine bq_iload (i := 8) dX6_rushes_60 rfl ?_
        refine bq_iload_n (i := 3) dX6_rushes_62 rfl ?_
        refine bq_icmp_ne (tgt := 81) dX6_rushes_63 (by decide) (fun c_63 => ?_) (fun c_63 => ?_)
        · refine bq_iconst (v := (nI 0)) dX6_rushes_81 (by decide) ?_
          refine bq_lvs (lv' := [(0, .ref (bt_ad α 6 0)), (1, .int (nI p)), (2, .int (m_oi (some q0))), (3, .int s), (4, .int t), (5, .int (nI r)), (6, .int (nI k)), (7, .int (m_wOk σ (m_puts σ x p k))), (8, .int (m_tsp σ x p k))]) ⟨rfl, rfl, rfl, rfl, rfl, rfl, rfl, rfl, rfl, trivial⟩ ?_
          exact fin _ _ _ rfl rfl (((if_neg c_57).trans (if_neg c_63)).symm)
        · refine bq_aload_n (i := 0) dX6_rushes_66 rfl ?_
          refine bt_get3 (c' := 8) (n := 29) dX6_rushes_67 fl_X6_59 (by first | assumption | exact J.v3 | exact J.v4 | exact J.v5 | exact J.v6 | exact J.l0 | exact J.l1 | exact J.l2 | exact J.l3 | exact J.row (by assumption) | exact J.ops (by assumption) | exact J.job (by assumption)) ⟨rfl, rfl, rfl⟩ (by decide) ?_
          refine bq_iload_n (i := 1) dX6_rushes_70 rfl ?_
          refine bt_iald0 (n := 29) (j := p) dX6_rushes_71 J.a29 rfl (by omega) (by decide) rfl ?_
          refine bq_iload (i := 4) dX6_rushes_72 rfl ?_
          refine bq_icmp_ge (tgt := 81) dX6_rushes_74 (by decide) (fun c_74 => ?_) (fun c_74 => ?_)
          · refine bq_iconst (v := (nI 0)) dX6_rushes_81 (by decide) ?_
            refine bq_lvs (lv' := [(0, .ref (bt_ad α 6 0)), (1, .int (nI p)), (2, .int (m_oi (some q0))), (3, .int s), (4, .int t), (5, .int (nI r)), (6, .int (nI k)), (7, .int (m_wOk σ (m_puts σ x p k))), (8, .int (m_tsp σ x p k))]) ⟨rfl, rfl, rfl, rfl, rfl, rfl, rfl, rfl, rfl, trivial⟩ ?_
            exact fin _ _ _ rfl rfl (((if_neg c_57).trans ((if_pos c_63).trans (if_pos c_74))).symm)
          · refine bq_iconst (v := (nI 1)) dX6_rushes_77 (by decide) ?_
            refine bq_goto (tgt := 82) dX6_rushes_78 (by decide) ?_
            refine bq_lvs (lv' := [(0, .ref (bt_ad α 6 0)), (1, .int (nI p)), (2, .int (m_oi (some q0))), (3, .int s), (4, .int t), (5, .int (nI r)), (6, .int (nI k)), (7, .int (m_wOk σ (m_puts σ x p k))), (8, .int (m_tsp σ x p k))]) ⟨rfl, rfl, rfl, rfl, rfl, rfl, rfl, rfl, rfl, trivial⟩ ?_
            exact fin _ _ _ rfl rfl (((if_neg c_57).trans ((if_pos c_63).trans (if_neg c_74))).symm)
set_option maxRecDepth 100000 in
set_option maxHeartbeats 400000 in
theorem n_rsh1 {G : bp_X} {α : bt_A} {σ x : bt_X} {p : Nat} (J : m_J α) (hN : m_Nn σ) (hK : m_K σ) (hR : m_Rw x) (hp : p < 32) (h32 : m_rn x (m_mc σ p) < 32) (hb : ∃ b, (m_tr σ x p).1 = some b) : bq_S G mX6_rushes 4 [.ref (bt_ad α 6 0), .int (nI p)] (bt α σ x) (bq_ret none (bt α σ (m_rsh1 σ x p))) := by
  obtain ⟨c1, c2⟩ := m_mc_e hK hp
  obtain ⟨r1, r2⟩ := m_rn_e hR c2
  obtain ⟨b, hb⟩ := hb
  refine bq_ofW (by decide +kernel) rfl (Nat.le_of_ble_eq_true rfl) ?_
  refine bq_iconst (v := (-1 : Int32)) dX6_rushes_0 (by decide) ?_
  refine bq_istore_n (i := 2) dX6_rushes_1 (by decide) ?_
  refine bq_iconst (v := (nI 0)) dX6_rushes_2 (by decide) ?_
  refine bq_istore_n (i := 3) dX6_rushes_3 (by decide) ?_
  refine bq_iconst (v := (nI 0)) dX6_rushes_4 (by decide) ?_
  refine bq_istore (i := 4) dX6_rushes_5 (by decide) ?_
  refine bq_aload_n (i := 0) dX6_rushes_7 rfl ?_
  refine bt_get3 (c' := 8) (n := 15) dX6_rushes_8 fl_X6_19 (by first | assumption | exact J.v3 | exact J.v4 | exact J.v5 | exact J.v6 | exact J.l0 | exact J.l1 | exact J.l2 | exact J.l3 | exact J.row (by assumption) | exact J.ops (by assumption) | exact J.job (by assumption)) ⟨rfl, rfl, rfl⟩ (by decide) ?_
  refine bq_aload_n (i := 0) dX6_rushes_11 rfl ?_
  refine bt_get3 (c' := 8) (n := 21) dX6_rushes_12 fl_X6_35 (by first | assumption | exact J.v3 | exact J.v4 | exact J.v5 | exact J.v6 | exact J.l0 | exact J.l1 | exact J.l2 | exact J.l3 | exact J.row (by assumption) | exact J.ops (by assumption) | exact J.job (by assumption)) ⟨rfl, rfl, rfl⟩ (by decide) ?_
  refine bq_iload_n (i := 1) dX6_rushes_15 rfl ?_
  refine bt_iald4 (n := 21) (j := p) dX6_rushes_16 J.a21 rfl (by omega) (by decide) rfl ?_
  rw [c1]
  refine bt_iald0 (n := 15) (j := (m_mc σ p)) dX6_rushes_17 J.a15 rfl (by omega) (by decide) rfl ?_
  rw [r1]
  refine bq_istore (i := 5) dX6_rushes_18 (by decide) ?_
  refine bq_iconst (v := (nI 0)) dX6_rushes_20 (by decide) ?_
  refine bq_istore (i := 6) dX6_rushes_21 (by decide) ?_
  refine bq_lvs (lv' := [(0, .ref (bt_ad α 6 0)), (1, .int (nI p)), (2, .int (m_oi none)), (3, .int (nI 0)), (4, .int (nI 0)), (5, .int (nI (m_rn x (m_mc σ p)))), (6, .int (nI 0))]) ⟨rfl, rfl, rfl, rfl, rfl, rfl, rfl, trivial⟩ ?_
  refine n_try J hN hK hp h32 (m_rn x (m_mc σ p) + 1) 0 x none (nI 0) (nI 0) rfl rfl hR (fun q h => by cases h) (fun hR2 hr2 hb2 => ?_)
  rw [show m_try σ p (m_rn x (m_mc σ p) + 1) 0 x none (nI 0) (nI 0) = m_tr σ x p from rfl] at hR2 hr2 hb2 ⊢
  unfold m_rsh1
  rw [hb]
  have hbl := hb2 b hb
  refine bq_aload_n (i := 0) dX6_rushes_119 rfl ?_
  refine bq_iload_n (i := 1) dX6_rushes_120 rfl ?_
  refine bq_iload_n (i := 2) dX6_rushes_121 rfl ?_
  refine bt_callVr (c := 6) (i := 0) dX6_rushes_122 rfl ml_X6_136 (by first | assumption | exact J.v3 | exact J.v4 | exact J.v5 | exact J.v6 | exact J.l0 | exact J.l1 | exact J.l2 | exact J.l3 | exact J.row (by assumption) | exact J.ops (by assumption) | exact J.job (by assumption)) (by decide) (n_puts J hK hR2 hp (show b ≤ m_rn (m_tr σ x p).2 (m_mc σ p) by omega) (by omega)) (by decide) (by decide) (Nat.le_of_ble_eq_true rfl) rfl ?_
  exact bq_vret dX6_rushes_125 rfl bq_ret_i
noncomputable def m_rsh (σ : bt_X) (j : Nat) : Nat → Nat → bt_X → bt_X
  | 0, _, x => x
  | n + 1, k, x => m_rsh σ j n (k + 1) (m_rsh1 σ x (4 * j + k))
/-- each finds a place -/
def m_rok (σ : bt_X) (j : Nat) : Nat → Nat → bt_X → Prop
  | 0, _, _ => True
  | n + 1, k, x => (∃ b, (m_tr σ x (4 * j + k)).1 = some b) ∧ m_rok σ j n (k + 1) (m_rsh1 σ x (4 * j + k))
noncomputable def m_rush (σ x : bt_X) (a : Int32) : m_Rt := if m_bars σ a = 0 then m_mvd σ a.toNatClampNeg (nI 1) (m_rsh σ a.toNatClampNeg (m_np σ a.toNatClampNeg) 0 (m_thr x (nI 0))) else (nI 0, σ, m_thr x (nI (m_bars σ a)))
theorem m_try_rn {σ : bt_X} {p : Nat} (hm : m_mc σ p < 4) (hp : p < 32) {r : Nat} (hr : r < 32) : ∀ (n k : Nat) (x : bt_X) (b : Option Nat) (s t : Int32), n + k = r + 1 → m_Rw x → r = m_rn x (m_mc σ p) → (∀ q, b = some q → q ≤ r) →
    (∀ m, m_rn (m_try σ p n k x b s t).2 m = m_rn x m) ∧ m_Rw (m_try σ p n k x b s t).2 ∧ ∀ q, (m_try σ p n k x b s t).1 = some q → q ≤ r := by
  intro n
  induction n with
  | zero => intro k x b s t _ hR _ hb; exact ⟨fun _ => rfl, hR, hb⟩
  | succ n ih =>
    intro k x b s t hk hR hrx hb
    have h32 : m_rn x (m_mc σ p) < 32 := by omega
    have hR2 := m_tsx_Rw hR hp hm (k := k) (by omega) h32
    have hr2 : r = m_rn (m_tsx σ x p k) (m_mc σ p) := by rw [m_tsx_rn h32]; exact hrx
    have go : ∀ b' s' t', (∀ q, b' = some q → q ≤ r) → (∀ m, m_rn (m_try σ p n (k + 1) (m_tsx σ x p k) b' s' t').2 m = m_rn x m) ∧ m_Rw (m_try σ p n (k + 1) (m_tsx σ x p k) b' s' t').2 ∧ ∀ q, (m_try σ p n (k + 1) (m_tsx σ x p k) b' s' t').1 = some q → q ≤ r := fun b' s' t' hb' => by
      obtain ⟨g1, g2, g3⟩ := ih (k + 1) (m_tsx σ x p k) b' s' t' (by omega) hR2 hr2 hb'
      exact ⟨fun m => (g1 m).trans (m_tsx_rn h32), g2, g3⟩
    unfold m_try
    split
    · exact go _ _ _ hb
    · split
      · exact go _ _ _ hb
      · exact go _ _ _ (fun q hq => by cases hq; omega)
theorem m_rsh1_f {σ x : bt_X} {p : Nat} (hm : m_mc σ p < 4) (hp : p < 32) (hR : m_Rw x) (h32 : m_rn x (m_mc σ p) < 32) : m_Rw (m_rsh1 σ x p) ∧ m_tot (m_rsh1 σ x p) = m_tot x + 1 := by
  obtain ⟨g1, g2, g3⟩ := m_try_rn hm hp h32 (m_rn x (m_mc σ p) + 1) 0 x none (nI 0) (nI 0) rfl hR rfl (fun q h => by cases h)
  have e : (m_tr σ x p).1.getD 0 ≤ m_rn x (m_mc σ p) := by
    cases h : (m_tr σ x p).1 with
    | none => exact Nat.zero_le _
    | some q => exact g3 q h
  have er : m_rn (m_tr σ x p).2 (m_mc σ p) = m_rn x (m_mc σ p) := g1 _
  refine ⟨m_Rw.puts (x := (m_tr σ x p).2) g2 hp hm (by rw [er]; exact e) (by rw [er]; exact h32), ?_⟩
  unfold m_rsh1
  rw [m_tot_puts (x := (m_tr σ x p).2) hm (by rw [er]; exact h32)]
  congr 1
  unfold m_tot
  rw [show m_rn (m_tr σ x p).2 0 = _ from g1 0, show m_rn (m_tr σ x p).2 1 = _ from g1 1, show m_rn (m_tr σ x p).2 2 = _ from g1 2, show m_rn (m_tr σ x p).2 3 = _ from g1 3]
set_option maxRecDepth 100000 in
set_option maxHeartbeats 400000 in
theorem n_rsh {G : bp_X} {α : bt_A} {σ : bt_X} (J : m_J α) (hN : m_Nn σ) (hK : m_K σ) {Φ : bp_O → bq_O → Prop} {j : Nat} (hj : j < 8) : ∀ (n k : Nat) (x : bt_X), n + k = m_np σ j → m_Rw x → m_tot x + n ≤ 32 → m_rok σ j n k x → (m_Rw (m_rsh σ j n k x) → bq_W G mX6_rush 5 45 [(0, .ref (bt_ad α 6 0)), (1, .int (nI j))] [] (bt α σ (m_rsh σ j n k x)) Φ) → bq_W G mX6_rush 5 20 [(0, .ref (bt_ad α 6 0)), (1, .int (nI j)), (2, .int (nI k))] [] (bt α σ x) Φ := by
  obtain ⟨g1, g2⟩ := m_np_e hN hj
  intro n
  induction n with
  | zero =>
    intro k x hk hR ht ho kk
    unfold m_rsh at kk
    refine bq_iload_n (i := 2) dX6_rush_20 rfl ?_
    refine bq_aload_n (i := 0) dX6_rush_21 rfl ?_
    refine bt_get3 (c' := 8) (n := 19) dX6_rush_22 fl_X6_28 (by first | assumption | exact J.v3 | exact J.v4 | exact J.v5 | exact J.v6 | exact J.l0 | exact J.l1 | exact J.l2 | exact J.l3 | exact J.row (by assumption) | exact J.ops (by assumption) | exact J.job (by assumption)) ⟨rfl, rfl, rfl⟩ (by decide) ?_
    refine bq_iload_n (i := 1) dX6_rush_25 rfl ?_
    refine bt_iald4 (n := 19) (j := j) dX6_rush_26 J.a19 rfl (by omega) (by decide) rfl ?_
    rw [g1]
    refine bq_icmp_ge (tgt := 45) dX6_rush_27 (by decide) (fun c_27 => ?_) (fun z9_ => absurd (show nI (m_np σ j) ≤ nI k from nI_le (by omega) (by omega)) z9_)
    refine bq_lvs (lv' := [(0, .ref (bt_ad α 6 0)), (1, .int (nI j))]) ⟨rfl, rfl, trivial⟩ ?_
    exact kk hR
  | succ n ih =>
    intro k x hk hR ht ho kk
    obtain ⟨c1, c2⟩ := m_mc_e hK (show 4 * j + k < 32 by omega)
    have h32 : m_rn x (m_mc σ (4 * j + k)) < 32 := by have := m_tot_le (x := x) c2; omega
    obtain ⟨q1, q2⟩ := m_rsh1_f c2 (show 4 * j + k < 32 by omega) hR h32
    unfold m_rok at ho
    unfold m_rsh at kk
    refine bq_iload_n (i := 2) dX6_rush_20 rfl ?_
    refine bq_aload_n (i := 0) dX6_rush_21 rfl ?_
    refine bt_get3 (c' := 8) (n := 19) dX6_rush_22 fl_X6_28 (by first | assumption | exact J.v3 | exact J.v4 | exact J.v5 | exact J.v6 | exact J.l0 | exact J.l1 | exact J.l2 | exact J.l3 | exact J.row (by assumption) | exact J.ops (by assumption) | exact J.job (by assumption)) ⟨rfl, rfl, rfl⟩ (by decide) ?_
    refine bq_iload_n (i := 1) dX6_rush_25 rfl ?_
    refine bt_iald4 (n := 19) (j := j) dX6_rush_26 J.a19 rfl (by omega) (by decide) rfl ?_
    rw [g1]
    refine bq_icmp_ge (tgt := 45) dX6_rush_27 (by decide) (fun z9_ => absurd z9_ (show ¬ nI (m_np σ j) ≤ nI k from nI_ge (by omega) (by omega))) (fun c_27 => ?_)
    refine bq_aload_n (i := 0) dX6_rush_30 rfl ?_
    refine bq_iconst (v := (nI 4)) dX6_rush_31 (by decide) ?_
    refine bq_iload_n (i := 1) dX6_rush_32 rfl ?_
    refine bq_imul dX6_rush_33 ?_
    refine bq_iload_n (i := 2) dX6_rush_34 rfl ?_
    refine bq_iadd dX6_rush_35 ?_
    rw [pk_mul, nI_add]
    refine bt_callVr (c := 6) (i := 0) dX6_rush_36 rfl ml_X6_144 (by first | assumption | exact J.v3 | exact J.v4 | exact J.v5 | exact J.v6 | exact J.l0 | exact J.l1 | exact J.l2 | exact J.l3 | exact J.row (by assumption) | exact J.ops (by assumption) | exact J.job (by assumption)) (by decide) (n_rsh1 J hN hK hR (by omega) h32 ho.1) (by decide) (by decide) (Nat.le_of_ble_eq_true rfl) rfl ?_
    refine bq_iinc dX6_rush_39 rfl (by decide) (by first | exact bp_inc _ | rfl) ?_
    refine bq_goto (tgt := 20) dX6_rush_42 (by decide) ?_
    refine bq_lvs (lv' := [(0, .ref (bt_ad α 6 0)), (1, .int (nI j)), (2, .int (nI (k + 1)))]) ⟨rfl, rfl, rfl, trivial⟩ ?_
    exact ih (k + 1) _ (by omega) q1 (by omega) ho.2 kk
set_option maxRecDepth 100000 in
set_option maxHeartbeats 400000 in
theorem n_rush {G : bp_X} {α : bt_A} {σ x : bt_X} {a : Int32} (J : m_J α) (hN : m_Nn σ) (hK : m_K σ) (hR : m_Rw x) (hcap : m_bars σ a = 0 → ∀ j, b_ix (m_nj σ) a = some j → m_tot x + m_np σ j ≤ 32) (hok : m_bars σ a = 0 → ∀ j, b_ix (m_nj σ) a = some j → m_rok σ j (m_np σ j) 0 (m_thr x (nI 0))) : bq_S G mX6_rush 5 [.ref (bt_ad α 6 0), .int a] (bt α σ x) (bq_ret (some (.int (m_rush σ x a).1)) (bt α (m_rush σ x a).2.1 (m_rush σ x a).2.2)) := by
  refine bq_ofW (by decide +kernel) rfl (Nat.le_of_ble_eq_true rfl) ?_
  rcases m_bars_c (σ := σ) (a := a) with e0 | e0 | ⟨e0, j, e1⟩
  · rw [show m_rush σ x a = (nI 0, σ, m_thr x (nI 1)) by unfold m_rush; rw [if_neg (by omega), e0]]
    refine bq_aload_n (i := 0) dX6_rush_0 rfl ?_
    refine bq_aload_n (i := 0) dX6_rush_1 rfl ?_
    refine bq_iload_n (i := 1) dX6_rush_2 rfl ?_
    refine bt_callVr (c := 6) (i := 0) dX6_rush_3 rfl ml_X6_133 (by first | assumption | exact J.v3 | exact J.v4 | exact J.v5 | exact J.v6 | exact J.l0 | exact J.l1 | exact J.l2 | exact J.l3 | exact J.row (by assumption) | exact J.ops (by assumption) | exact J.job (by assumption)) (by decide) (n_bars J hN) (by decide) (by decide) (Nat.le_of_ble_eq_true rfl) rfl ?_
    rw [e0]
    refine bt_put0 dX6_rush_6 fl_X6_74 (by first | assumption | exact J.v3 | exact J.v4 | exact J.v5 | exact J.v6 | exact J.l0 | exact J.l1 | exact J.l2 | exact J.l3 | exact J.row (by assumption) | exact J.ops (by assumption) | exact J.job (by assumption)) rfl (by decide) (by first | rfl | decide) (by first | rfl | decide) ?_
    refine bq_aload_n (i := 0) dX6_rush_9 rfl ?_
    refine bt_get0 dX6_rush_10 fl_X6_74 (by first | assumption | exact J.v3 | exact J.v4 | exact J.v5 | exact J.v6 | exact J.l0 | exact J.l1 | exact J.l2 | exact J.l3 | exact J.row (by assumption) | exact J.ops (by assumption) | exact J.job (by assumption)) rfl (by decide) ?_
    rw [b_gs_at]
    refine bq_if_le (tgt := 18) dX6_rush_13 (by decide) (fun z9_ => absurd z9_ (show ¬ nI 1 ≤ 0 by decide)) (fun c_13 => ?_)
    refine bq_iconst (v := (nI 0)) dX6_rush_16 (by decide) ?_
    exact bq_iret dX6_rush_17 rfl (by first | rfl | decide) bq_ret_i
  · rw [show m_rush σ x a = (nI 0, σ, m_thr x (nI 2)) by unfold m_rush; rw [if_neg (by omega), e0]]
    refine bq_aload_n (i := 0) dX6_rush_0 rfl ?_
    refine bq_aload_n (i := 0) dX6_rush_1 rfl ?_
    refine bq_iload_n (i := 1) dX6_rush_2 rfl ?_
    refine bt_callVr (c := 6) (i := 0) dX6_rush_3 rfl ml_X6_133 (by first | assumption | exact J.v3 | exact J.v4 | exact J.v5 | exact J.v6 | exact J.l0 | exact J.l1 | exact J.l2 | exact J.l3 | exact J.row (by assumption) | exact J.ops (by assumption) | exact J.job (by assumption)) (by decide) (n_bars J hN) (by decide) (by decide) (Nat.le_of_ble_eq_true rfl) rfl ?_
    rw [e0]
    refine bt_put0 dX6_rush_6 fl_X6_74 (by first | assumption | exact J.v3 | exact J.v4 | exact J.v5 | exact J.v6 | exact J.l0 | exact J.l1 | exact J.l2 | exact J.l3 | exact J.row (by assumption) | exact J.ops (by assumption) | exact J.job (by assumption)) rfl (by decide) (by first | rfl | decide) (by first | rfl | decide) ?_
    refine bq_aload_n (i := 0) dX6_rush_9 rfl ?_
    refine bt_get0 dX6_rush_10 fl_X6_74 (by first | assumption | exact J.v3 | exact J.v4 | exact J.v5 | exact J.v6 | exact J.l0 | exact J.l1 | exact J.l2 | exact J.l3 | exact J.row (by assumption) | exact J.ops (by assumption) | exact J.job (by assumption)) rfl (by decide) ?_
    rw [b_gs_at]
    refine bq_if_le (tgt := 18) dX6_rush_13 (by decide) (fun z9_ => absurd z9_ (show ¬ nI 2 ≤ 0 by decide)) (fun c_13 => ?_)
    refine bq_iconst (v := (nI 0)) dX6_rush_16 (by decide) ?_
    exact bq_iret dX6_rush_17 rfl (by first | rfl | decide) bq_ret_i
  · have hj9 : m_nj σ < 9 := hN.2.1.l
    obtain ⟨ea, hjn⟩ := m_ix_e (by omega) e1
    have hj8 := m_nj8 hN hjn
    rw [show m_rush σ x a = m_mvd σ a.toNatClampNeg (nI 1) (m_rsh σ a.toNatClampNeg (m_np σ a.toNatClampNeg) 0 (m_thr x (nI 0))) by unfold m_rush; rw [if_pos e0]]
    subst ea
    rw [nI_clamp (show j < 2 ^ 31 by omega)]
    refine bq_aload_n (i := 0) dX6_rush_0 rfl ?_
    refine bq_aload_n (i := 0) dX6_rush_1 rfl ?_
    refine bq_iload_n (i := 1) dX6_rush_2 rfl ?_
    refine bt_callVr (c := 6) (i := 0) dX6_rush_3 rfl ml_X6_133 (by first | assumption | exact J.v3 | exact J.v4 | exact J.v5 | exact J.v6 | exact J.l0 | exact J.l1 | exact J.l2 | exact J.l3 | exact J.row (by assumption) | exact J.ops (by assumption) | exact J.job (by assumption)) (by decide) (n_bars J hN) (by decide) (by decide) (Nat.le_of_ble_eq_true rfl) rfl ?_
    rw [e0]
    refine bt_put0 dX6_rush_6 fl_X6_74 (by first | assumption | exact J.v3 | exact J.v4 | exact J.v5 | exact J.v6 | exact J.l0 | exact J.l1 | exact J.l2 | exact J.l3 | exact J.row (by assumption) | exact J.ops (by assumption) | exact J.job (by assumption)) rfl (by decide) (by first | rfl | decide) (by first | rfl | decide) ?_
    refine bq_aload_n (i := 0) dX6_rush_9 rfl ?_
    refine bt_get0 dX6_rush_10 fl_X6_74 (by first | assumption | exact J.v3 | exact J.v4 | exact J.v5 | exact J.v6 | exact J.l0 | exact J.l1 | exact J.l2 | exact J.l3 | exact J.row (by assumption) | exact J.ops (by assumption) | exact J.job (by assumption)) rfl (by decide) ?_
    rw [b_gs_at]
    refine bq_if_le (tgt := 18) dX6_rush_13 (by decide) (fun c_13 => ?_) (fun z9_ => absurd (show nI 0 ≤ 0 by decide) z9_)
    refine bq_iconst (v := (nI 0)) dX6_rush_18 (by decide) ?_
    refine bq_istore_n (i := 2) dX6_rush_19 (by decide) ?_
    refine bq_lvs (lv' := [(0, .ref (bt_ad α 6 0)), (1, .int (nI j)), (2, .int (nI 0))]) ⟨rfl, rfl, rfl, trivial⟩ ?_
    refine n_rsh J hN hK hj8 (m_np σ j) 0 _ rfl hR.thr (by show m_tot (m_thr x (nI 0)) + _ ≤ 32; rw [m_rn_thr']; exact hcap e0 j e1) (hok e0 j e1) (fun hR2 => ?_)
    refine bq_aload_n (i := 0) dX6_rush_45 rfl ?_
    refine bt_get3 (c' := 8) (n := 20) dX6_rush_46 fl_X6_31 (by first | assumption | exact J.v3 | exact J.v4 | exact J.v5 | exact J.v6 | exact J.l0 | exact J.l1 | exact J.l2 | exact J.l3 | exact J.row (by assumption) | exact J.ops (by assumption) | exact J.job (by assumption)) ⟨rfl, rfl, rfl⟩ (by decide) ?_
    refine bq_iload_n (i := 1) dX6_rush_49 rfl ?_
    refine bq_iconst (v := (nI 1)) dX6_rush_50 (by decide) ?_
    refine bt_zast4 (n := 20) (j := j) dX6_rush_51 J.a20 rfl (by omega) (by decide) rfl (by first | rfl | decide) ?_
    refine bq_aload_n (i := 0) dX6_rush_52 rfl ?_
    refine bt_callVr (c := 6) (i := 0) dX6_rush_53 rfl ml_X6_113 (by first | assumption | exact J.v3 | exact J.v4 | exact J.v5 | exact J.v6 | exact J.l0 | exact J.l1 | exact J.l2 | exact J.l3 | exact J.row (by assumption) | exact J.ops (by assumption) | exact J.job (by assumption)) (by decide) (n_spanOf J (hN.gs (by omega)) (hK.gs (by omega)) hR2) (by decide) (by decide) (Nat.le_of_ble_eq_true rfl) rfl ?_
    exact bq_iret dX6_rush_56 rfl (by first | rfl | decide) bq_ret_i
