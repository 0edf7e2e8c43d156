/-! ===== the reference: critical path ===== -/
def m_lst (σ x : bt_X) (s : Int32) : Nat → Option Nat → Option Nat
  | 0, i => i
  | n + 1, i => m_lst σ x s n (if x.1 8 26 n = 0 then i else if m_fin σ x n = s then some n else i)
theorem m_lst_l {σ x : bt_X} {s : Int32} : ∀ (n : Nat) (i : Option Nat), n ≤ 32 → (∀ q, i = some q → q < 32) → ∀ q, m_lst σ x s n i = some q → q < 32 := by
  intro n
  induction n with
  | zero => intro i _ h q hq; exact h q hq
  | succ n ih =>
    intro i hn h q hq
    unfold m_lst at hq
    refine ih _ (by omega) (fun q' hq' => ?_) q hq
    split at hq'
    · exact h q' hq'
    · split at hq'
      · cases hq'; omega
      · exact h q' hq'
def m_nx2 (σ x : bt_X) (q : Nat) : Option Nat := match m_opt (x.1 8 27 q) with
  | none => none
  | some u => if m_fin σ x u + m_su σ (m_fm σ u) (m_fm σ q) = x.1 8 29 q then some u else none
/-- what one goes back to -/
def m_nxt (σ x : bt_X) (q : Nat) : Option Nat := match m_bef x q with
  | none => m_nx2 σ x q
  | some b => if m_fin σ x b = x.1 8 29 q then some b else m_nx2 σ x q
def m_pl (σ x : bt_X) : Nat → Option Nat → List Nat
  | _, none => []
  | 0, some _ => []
  | n + 1, some q => q :: m_pl σ x n (m_nxt σ x q)
/-- the way back ends in so many steps -/
def m_trm (σ x : bt_X) : Nat → Option Nat → Prop
  | _, none => True
  | 0, some _ => False
  | n + 1, some q => m_trm σ x n (m_nxt σ x q)
def m_pst : List Nat → Nat → bt_X → bt_X
  | [], _, x => x
  | q :: l, k, x => m_pst l (k + 1) (bt_gs (bt_gs x 8 32 k (nI q)) 6 0 21 (nI (k + 1)))
def m_same (x y : bt_X) : Prop := ∀ i k : Nat, 26 ≤ i ∧ i ≤ 29 → x.1 8 i k = y.1 8 i k
theorem m_same.bef {x y : bt_X} (h : m_same x y) {q : Nat} : m_bef x q = m_bef y q := by unfold m_bef; rw [h 26 _ (by omega)]
theorem m_same.fin {x y : bt_X} (h : m_same x y) {σ : bt_X} {q : Nat} : m_fin σ x q = m_fin σ y q := by unfold m_fin; rw [h 29 _ (by omega)]
theorem m_nxt_l {σ x : bt_X} (hL : m_L x) {q u : Nat} (hq : q < 32) (h : m_nxt σ x q = some u) : u < 32 := by
  have g : ∀ u, m_nx2 σ x q = some u → u < 32 := fun u h2 => by
    unfold m_nx2 at h2
    split at h2
    · cases h2
    · rename_i u' e
      split at h2
      · cases h2; exact m_opt_l (hL q hq).1 e
      · cases h2
  unfold m_nxt at h
  split at h
  · exact g u h
  · rename_i b e
    split at h
    · cases h; have := m_bef_l e; omega
    · exact g u h
set_option maxRecDepth 100000 in
set_option maxHeartbeats 400000 in
theorem n_lst {G : bp_X} {α : bt_A} {σ x : bt_X} (J : m_J α) {Φ : bp_O → bq_O → Prop} {s : Int32} : ∀ (n : Nat) (i : Option Nat), n ≤ 32 → bq_W G mX6_walks 5 44 [(0, .ref (bt_ad α 6 0)), (2, .int (m_oi (m_lst σ x s n i)))] [] (bt α σ x) Φ → bq_W G mX6_walks 5 10 [(0, .ref (bt_ad α 6 0)), (1, .int s), (2, .int (m_oi i)), (3, .int (nI n + (-1 : Int32)))] [] (bt α σ x) Φ := by
  intro n
  induction n with
  | zero =>
    intro i hn kk
    unfold m_lst at kk
    refine bq_iload_n (i := 3) dX6_walks_10 rfl ?_
    refine bq_if_lt (tgt := 44) dX6_walks_11 (by decide) (fun c_11 => ?_) (fun z9_ => absurd (show nI 0 + (-1 : Int32) < 0 by decide) z9_)
    refine bq_lvs (lv' := [(0, .ref (bt_ad α 6 0)), (2, .int (m_oi i))]) ⟨rfl, rfl, trivial⟩ ?_
    exact kk
  | succ n ih =>
    intro i hn kk
    unfold m_lst at kk
    rw [pk_m1]
    refine bq_iload_n (i := 3) dX6_walks_10 rfl ?_
    refine bq_if_lt (tgt := 44) dX6_walks_11 (by decide) (fun z9_ => absurd z9_ (show ¬ nI n < 0 from nI_pos (by omega))) (fun c_11 => ?_)
    refine bq_aload_n (i := 0) dX6_walks_14 rfl ?_
    refine bt_get3 (c' := 8) (n := 26) dX6_walks_15 fl_X6_50 (by first | assumption | exact J.v3 | exact J.v4 | exact J.v5 | exact J.v6 | exact J.l0 | exact J.l1 | exact J.l2 | exact J.l3 | exact J.row (by assumption) | exact J.ops (by assumption) | exact J.job (by assumption)) ⟨rfl, rfl, rfl⟩ (by decide) ?_
    refine bq_iload_n (i := 3) dX6_walks_18 rfl ?_
    refine bt_zald0 (n := 26) (j := n) dX6_walks_19 J.a26 rfl (by omega) (by decide) rfl ?_
    refine bq_if_eq (tgt := 36) dX6_walks_20 (by decide) (fun c_20 => ?_) (fun c_20 => ?_)
    · rw [if_pos c_20] at kk
      refine bq_iload_n (i := 2) dX6_walks_36 rfl ?_
      refine bq_istore_n (i := 2) dX6_walks_37 (by decide) ?_
      refine bq_iinc dX6_walks_38 rfl (by decide) rfl ?_
      first
        | (refine bq_goto (tgt := 10) dX6_walks_41 (by decide) ?_
           refine bq_lvs (lv' := [(0, .ref (bt_ad α 6 0)), (1, .int s), (2, .int (m_oi (i))), (3, .int (nI n + (-1 : Int32)))]) ⟨rfl, rfl, rfl, rfl, trivial⟩ ?_
           exact ih (i) (by omega) kk)
        | (refine bq_goto (tgt := 10) dX6_walks_41 (by decide) ?_
           refine bq_lvs (lv' := [(0, .ref (bt_ad α 6 0)), (1, .int s), (2, .int (m_oi (some n))), (3, .int (nI n + (-1 : Int32)))]) ⟨rfl, rfl, rfl, rfl, trivial⟩ ?_
           exact ih (some n) (by omega) kk)
    · rw [if_neg c_20] at kk
      refine bq_aload_n (i := 0) dX6_walks_23 rfl ?_
      refine bq_iload_n (i := 3) dX6_walks_24 rfl ?_
      refine bt_callVr (c := 6) (i := 0) dX6_walks_25 rfl ml_X6_92 (by first | assumption | exact J.v3 | exact J.v4 | exact J.v5 | exact J.v6 | exact J.l0 | exact J.l1 | exact J.l2 | exact J.l3 | exact J.row (by assumption) | exact J.ops (by assumption) | exact J.job (by assumption)) (by decide) (n_finish J (by omega)) (by decide) (by decide) (Nat.le_of_ble_eq_true rfl) rfl ?_
      refine bq_iload_n (i := 1) dX6_walks_28 rfl ?_
      refine bq_icmp_ne (tgt := 36) dX6_walks_29 (by decide) (fun c_29 => ?_) (fun c_29 => ?_)
      · rw [if_neg c_29] at kk
        refine bq_iload_n (i := 2) dX6_walks_36 rfl ?_
        refine bq_istore_n (i := 2) dX6_walks_37 (by decide) ?_
        refine bq_iinc dX6_walks_38 rfl (by decide) rfl ?_
        first
          | (refine bq_goto (tgt := 10) dX6_walks_41 (by decide) ?_
             refine bq_lvs (lv' := [(0, .ref (bt_ad α 6 0)), (1, .int s), (2, .int (m_oi (i))), (3, .int (nI n + (-1 : Int32)))]) ⟨rfl, rfl, rfl, rfl, trivial⟩ ?_
             exact ih (i) (by omega) kk)
          | (refine bq_goto (tgt := 10) dX6_walks_41 (by decide) ?_
             refine bq_lvs (lv' := [(0, .ref (bt_ad α 6 0)), (1, .int s), (2, .int (m_oi (some n))), (3, .int (nI n + (-1 : Int32)))]) ⟨rfl, rfl, rfl, rfl, trivial⟩ ?_
             exact ih (some n) (by omega) kk)
      · rw [if_pos c_29] at kk
        refine bq_iload_n (i := 3) dX6_walks_32 rfl ?_
        refine bq_goto (tgt := 37) dX6_walks_33 (by decide) ?_
        refine bq_istore_n (i := 2) dX6_walks_37 (by decide) ?_
        refine bq_iinc dX6_walks_38 rfl (by decide) rfl ?_
        first
          | (refine bq_goto (tgt := 10) dX6_walks_41 (by decide) ?_
             refine bq_lvs (lv' := [(0, .ref (bt_ad α 6 0)), (1, .int s), (2, .int (m_oi (i))), (3, .int (nI n + (-1 : Int32)))]) ⟨rfl, rfl, rfl, rfl, trivial⟩ ?_
             exact ih (i) (by omega) kk)
          | (refine bq_goto (tgt := 10) dX6_walks_41 (by decide) ?_
             refine bq_lvs (lv' := [(0, .ref (bt_ad α 6 0)), (1, .int s), (2, .int (m_oi (some n))), (3, .int (nI n + (-1 : Int32)))]) ⟨rfl, rfl, rfl, rfl, trivial⟩ ?_
             exact ih (some n) (by omega) kk)
set_option maxRecDepth 100000 in
set_option maxHeartbeats 400000 in
theorem n_walk_e {G : bp_X} {α : bt_A} {σ x : bt_X} {Φ : bp_O → bq_O → Prop} {q : Nat} {a b i j : Int32} (kk : bq_W G mX6_walks 5 49 [(0, .ref (bt_ad α 6 0)), (2, .int (if i = 0 then (if j = 0 then (-1 : Int32) else b) else a))] [] (bt α σ x) Φ) : bq_W G mX6_walks 5 161 [(0, .ref (bt_ad α 6 0)), (2, .int (nI q)), (3, .int a), (4, .int b), (5, .int i), (6, .int j)] [] (bt α σ x) Φ := by
  refine bq_iload (i := 5) dX6_walks_161 rfl ?_
  refine bq_if_eq (tgt := 170) dX6_walks_163 (by decide) (fun c_163 => ?_) (fun c_163 => ?_)
  · rw [if_pos c_163] at kk
    refine bq_iload (i := 6) dX6_walks_170 rfl ?_
    refine bq_if_eq (tgt := 180) dX6_walks_172 (by decide) (fun c_172 => ?_) (fun c_172 => ?_)
    · rw [if_pos c_172] at kk
      refine bq_iconst (v := (-1 : Int32)) dX6_walks_180 (by decide) ?_
      refine bq_istore_n (i := 2) dX6_walks_181 (by decide) ?_
      refine bq_goto (tgt := 49) dX6_walks_182 (by decide) ?_
      refine bq_lvs (lv' := [(0, .ref (bt_ad α 6 0)), (2, .int _)]) ⟨rfl, rfl, trivial⟩ ?_
      exact kk
    · rw [if_neg c_172] at kk
      refine bq_iload (i := 4) dX6_walks_175 rfl ?_
      refine bq_goto (tgt := 181) dX6_walks_177 (by decide) ?_
      refine bq_istore_n (i := 2) dX6_walks_181 (by decide) ?_
      refine bq_goto (tgt := 49) dX6_walks_182 (by decide) ?_
      refine bq_lvs (lv' := [(0, .ref (bt_ad α 6 0)), (2, .int _)]) ⟨rfl, rfl, trivial⟩ ?_
      exact kk
  · rw [if_neg c_163] at kk
    refine bq_iload_n (i := 3) dX6_walks_166 rfl ?_
    refine bq_goto (tgt := 181) dX6_walks_167 (by decide) ?_
    refine bq_istore_n (i := 2) dX6_walks_181 (by decide) ?_
    refine bq_goto (tgt := 49) dX6_walks_182 (by decide) ?_
    refine bq_lvs (lv' := [(0, .ref (bt_ad α 6 0)), (2, .int _)]) ⟨rfl, rfl, trivial⟩ ?_
    exact kk
set_option maxRecDepth 100000 in
set_option maxHeartbeats 400000 in
theorem n_walk {G : bp_X} {α : bt_A} {σ : bt_X} {y : bt_X} (J : m_J α) (hK : m_K σ) (hL : m_L y) {Φ : bp_O → bq_O → Prop} : ∀ (n k : Nat) (x : bt_X) (its : Option Nat), k + n ≤ 32 → m_trm σ y n its → m_same x y → (∀ q, its = some q → q < 32) → x.1 6 0 21 = nI k →
    bq_W G mX6_walks 5 185 [] [] (bt α σ (m_pst (m_pl σ y n its) k x)) Φ → bq_W G mX6_walks 5 49 [(0, .ref (bt_ad α 6 0)), (2, .int (m_oi its))] [] (bt α σ x) Φ := by
  intro n
  induction n with
  | zero =>
    intro k x its hk ht hs hi h21 kk
    cases its with
    | some q => exact absurd ht (fun z => z)
    | none =>
      unfold m_pl m_pst at kk
      refine bq_iload_n (i := 2) dX6_walks_49 rfl ?_
      refine bq_iconst (v := (-1 : Int32)) dX6_walks_50 (by decide) ?_
      refine bq_icmp_eq (tgt := 185) dX6_walks_51 (by decide) (fun c_51 => ?_) (fun z9_ => absurd (show m_oi none = (-1 : Int32) from rfl) z9_)
      refine bq_lvs (lv' := []) trivial ?_
      exact kk
  | succ n ih =>
    intro k x its hk ht hs hi h21 kk
    cases its with
    | none =>
      unfold m_pl m_pst at kk
      refine bq_iload_n (i := 2) dX6_walks_49 rfl ?_
      refine bq_iconst (v := (-1 : Int32)) dX6_walks_50 (by decide) ?_
      refine bq_icmp_eq (tgt := 185) dX6_walks_51 (by decide) (fun c_51 => ?_) (fun z9_ => absurd (show m_oi none = (-1 : Int32) from rfl) z9_)
      refine bq_lvs (lv' := []) trivial ?_
      exact kk
    | some q =>
      have hq := hi q rfl
      unfold m_trm at ht
      unfold m_pl m_pst at kk
      obtain ⟨f1, f2⟩ := m_fm_e hK hq
      have hl := (hL q hq).1
      have e27 := m_opt_i hl
      have hs2 : m_same (bt_gs (bt_gs x 8 32 k (nI q)) 6 0 21 (nI (k + 1))) y := fun i j hij => by
        rw [b_gs_ne (by omega), b_gs_ne (by omega)]
        exact hs i j hij
      have h21' : (bt_gs (bt_gs x 8 32 k (nI q)) 6 0 21 (nI (k + 1))).1 6 0 21 = nI (k + 1) := b_gs_at
      have hi2 : ∀ u, m_nxt σ y q = some u → u < 32 := fun u hu => m_nxt_l hL hq hu
      have kk2 := ih (k + 1) _ (m_nxt σ y q) (by omega) ht hs2 hi2 h21' kk
      clear kk ih
      refine bq_lvs (lv' := [(0, .ref (bt_ad α 6 0)), (2, .int (nI q))]) ⟨rfl, rfl, trivial⟩ ?_
      cases hb : m_bef y q with
      | none =>
        cases hu : m_opt (y.1 8 27 q) with
        | none =>
          rw [hu] at e27
          refine bq_iload_n (i := 2) dX6_walks_49 rfl ?_
          refine bq_iconst (v := (-1 : Int32)) dX6_walks_50 (by decide) ?_
          refine bq_icmp_eq (tgt := 185) dX6_walks_51 (by decide) (fun z9_ => absurd z9_ (show ¬ nI q = (-1 : Int32) from m_nI_ne (by omega))) (fun c_51 => ?_)
          refine bq_aload_n (i := 0) dX6_walks_54 rfl ?_
          refine bt_get3 (c' := 8) (n := 32) dX6_walks_55 fl_X6_65 (by first | assumption | exact J.v3 | exact J.v4 | exact J.v5 | exact J.v6 | exact J.l0 | exact J.l1 | exact J.l2 | exact J.l3 | exact J.row (by assumption) | exact J.ops (by assumption) | exact J.job (by assumption)) ⟨rfl, rfl, rfl⟩ (by decide) ?_
          refine bq_aload_n (i := 0) dX6_walks_58 rfl ?_
          refine bt_get0 dX6_walks_59 fl_X6_166 (by first | assumption | exact J.v3 | exact J.v4 | exact J.v5 | exact J.v6 | exact J.l0 | exact J.l1 | exact J.l2 | exact J.l3 | exact J.row (by assumption) | exact J.ops (by assumption) | exact J.job (by assumption)) rfl (by decide) ?_
          rw [h21]
          refine bq_iload_n (i := 2) dX6_walks_62 rfl ?_
          refine bt_iast0 (n := 32) (j := k) dX6_walks_63 J.a32 rfl (by omega) (by decide) rfl ?_
          refine bq_aload_n (i := 0) dX6_walks_64 rfl ?_
          refine bq_dup dX6_walks_65 rfl ?_
          refine bt_get0 dX6_walks_66 fl_X6_166 (by first | assumption | exact J.v3 | exact J.v4 | exact J.v5 | exact J.v6 | exact J.l0 | exact J.l1 | exact J.l2 | exact J.l3 | exact J.row (by assumption) | exact J.ops (by assumption) | exact J.job (by assumption)) rfl (by decide) ?_
          rw [b_gs_ne (by omega), h21]
          refine bq_iconst (v := (nI 1)) dX6_walks_69 (by decide) ?_
          refine bq_iadd dX6_walks_70 ?_
          rw [nI_add]
          refine bt_put0 dX6_walks_71 fl_X6_166 (by first | assumption | exact J.v3 | exact J.v4 | exact J.v5 | exact J.v6 | exact J.l0 | exact J.l1 | exact J.l2 | exact J.l3 | exact J.row (by assumption) | exact J.ops (by assumption) | exact J.job (by assumption)) rfl (by decide) (by first | rfl | decide) (by first | rfl | decide) ?_
          refine bq_aload_n (i := 0) dX6_walks_74 rfl ?_
          refine bq_iload_n (i := 2) dX6_walks_75 rfl ?_
          refine bq_iconst (v := (-1 : Int32)) dX6_walks_76 (by decide) ?_
          refine bt_callVr (c := 6) (i := 0) dX6_walks_77 rfl ml_X6_88 (by first | assumption | exact J.v3 | exact J.v4 | exact J.v5 | exact J.v6 | exact J.l0 | exact J.l1 | exact J.l2 | exact J.l3 | exact J.row (by assumption) | exact J.ops (by assumption) | exact J.job (by assumption)) (by decide) (n_bef J hq) (by decide) (by decide) (Nat.le_of_ble_eq_true rfl) rfl ?_
          rw [hs2.bef, hb]
          refine bq_istore_n (i := 3) dX6_walks_80 (by decide) ?_
          refine bq_aload_n (i := 0) dX6_walks_81 rfl ?_
          refine bt_get3 (c' := 8) (n := 27) dX6_walks_82 fl_X6_53 (by first | assumption | exact J.v3 | exact J.v4 | exact J.v5 | exact J.v6 | exact J.l0 | exact J.l1 | exact J.l2 | exact J.l3 | exact J.row (by assumption) | exact J.ops (by assumption) | exact J.job (by assumption)) ⟨rfl, rfl, rfl⟩ (by decide) ?_
          refine bq_iload_n (i := 2) dX6_walks_85 rfl ?_
          refine bt_iald0 (n := 27) (j := q) dX6_walks_86 J.a27 rfl (by omega) (by decide) rfl ?_
          rw [hs2 27 _ (by omega), e27]
          refine bq_istore (i := 4) dX6_walks_87 (by decide) ?_
          refine bq_iload_n (i := 3) dX6_walks_89 rfl ?_
          refine bq_iconst (v := (-1 : Int32)) dX6_walks_90 (by decide) ?_
          refine bq_icmp_eq (tgt := 112) dX6_walks_91 (by decide) (fun c_91 => ?_) (fun z9_ => absurd (show m_oi none = (-1 : Int32) from rfl) z9_)
          refine bq_iconst (v := (nI 0)) dX6_walks_112 (by decide) ?_
          refine bq_istore (i := 5) dX6_walks_113 (by decide) ?_
          refine bq_iload (i := 4) dX6_walks_115 rfl ?_
          refine bq_iconst (v := (-1 : Int32)) dX6_walks_117 (by decide) ?_
          refine bq_icmp_eq (tgt := 158) dX6_walks_118 (by decide) (fun c_118 => ?_) (fun z9_ => absurd (show m_oi none = (-1 : Int32) from rfl) z9_)
          refine bq_iconst (v := (nI 0)) dX6_walks_158 (by decide) ?_
          refine bq_istore (i := 6) dX6_walks_159 (by decide) ?_
          have en : m_nxt σ y q = none := by
            unfold m_nxt
            rw [hb]
            simp only []
            unfold m_nx2
            rw [hu]
            try simp only []
          rw [en] at kk2
          refine bq_lvs (lv' := [(0, .ref (bt_ad α 6 0)), (2, .int (nI q)), (3, .int (m_oi none)), (4, .int (m_oi none)), (5, .int (nI 0)), (6, .int (nI 0))]) ⟨rfl, rfl, rfl, rfl, rfl, rfl, trivial⟩ ?_
          refine n_walk_e ?_
          rw [show (if nI 0 = 0 then (if nI 0 = 0 then (-1 : Int32) else m_oi none) else m_oi none) = m_oi (none) from ((if_pos (by decide)).trans (if_pos (by decide)))]
          exact kk2
        | some u =>
          rw [hu] at e27
          have hul := m_opt_l hl hu
          obtain ⟨g1, g2⟩ := m_fm_e hK hul
          refine bq_iload_n (i := 2) dX6_walks_49 rfl ?_
          refine bq_iconst (v := (-1 : Int32)) dX6_walks_50 (by decide) ?_
          refine bq_icmp_eq (tgt := 185) dX6_walks_51 (by decide) (fun z9_ => absurd z9_ (show ¬ nI q = (-1 : Int32) from m_nI_ne (by omega))) (fun c_51 => ?_)
          refine bq_aload_n (i := 0) dX6_walks_54 rfl ?_
          refine bt_get3 (c' := 8) (n := 32) dX6_walks_55 fl_X6_65 (by first | assumption | exact J.v3 | exact J.v4 | exact J.v5 | exact J.v6 | exact J.l0 | exact J.l1 | exact J.l2 | exact J.l3 | exact J.row (by assumption) | exact J.ops (by assumption) | exact J.job (by assumption)) ⟨rfl, rfl, rfl⟩ (by decide) ?_
          refine bq_aload_n (i := 0) dX6_walks_58 rfl ?_
          refine bt_get0 dX6_walks_59 fl_X6_166 (by first | assumption | exact J.v3 | exact J.v4 | exact J.v5 | exact J.v6 | exact J.l0 | exact J.l1 | exact J.l2 | exact J.l3 | exact J.row (by assumption) | exact J.ops (by assumption) | exact J.job (by assumption)) rfl (by decide) ?_
          rw [h21]
          refine bq_iload_n (i := 2) dX6_walks_62 rfl ?_
          refine bt_iast0 (n := 32) (j := k) dX6_walks_63 J.a32 rfl (by omega) (by decide) rfl ?_
          refine bq_aload_n (i := 0) dX6_walks_64 rfl ?_
          refine bq_dup dX6_walks_65 rfl ?_
          refine bt_get0 dX6_walks_66 fl_X6_166 (by first | assumption | exact J.v3 | exact J.v4 | exact J.v5 | exact J.v6 | exact J.l0 | exact J.l1 | exact J.l2 | exact J.l3 | exact J.row (by assumption) | exact J.ops (by assumption) | exact J.job (by assumption)) rfl (by decide) ?_
          rw [b_gs_ne (by omega), h21]
          refine bq_iconst (v := (nI 1)) dX6_walks_69 (by decide) ?_
          refine bq_iadd dX6_walks_70 ?_
          rw [nI_add]
          refine bt_put0 dX6_walks_71 fl_X6_166 (by first | assumption | exact J.v3 | exact J.v4 | exact J.v5 | exact J.v6 | exact J.l0 | exact J.l1 | exact J.l2 | exact J.l3 | exact J.row (by assumption) | exact J.ops (by assumption) | exact J.job (by assumption)) rfl (by decide) (by first | rfl | decide) (by first | rfl | decide) ?_
          refine bq_aload_n (i := 0) dX6_walks_74 rfl ?_
          refine bq_iload_n (i := 2) dX6_walks_75 rfl ?_
          refine bq_iconst (v := (-1 : Int32)) dX6_walks_76 (by decide) ?_
          refine bt_callVr (c := 6) (i := 0) dX6_walks_77 rfl ml_X6_88 (by first | assumption | exact J.v3 | exact J.v4 | exact J.v5 | exact J.v6 | exact J.l0 | exact J.l1 | exact J.l2 | exact J.l3 | exact J.row (by assumption) | exact J.ops (by assumption) | exact J.job (by assumption)) (by decide) (n_bef J hq) (by decide) (by decide) (Nat.le_of_ble_eq_true rfl) rfl ?_
          rw [hs2.bef, hb]
          refine bq_istore_n (i := 3) dX6_walks_80 (by decide) ?_
          refine bq_aload_n (i := 0) dX6_walks_81 rfl ?_
          refine bt_get3 (c' := 8) (n := 27) dX6_walks_82 fl_X6_53 (by first | assumption | exact J.v3 | exact J.v4 | exact J.v5 | exact J.v6 | exact J.l0 | exact J.l1 | exact J.l2 | exact J.l3 | exact J.row (by assumption) | exact J.ops (by assumption) | exact J.job (by assumption)) ⟨rfl, rfl, rfl⟩ (by decide) ?_
          refine bq_iload_n (i := 2) dX6_walks_85 rfl ?_
          refine bt_iald0 (n := 27) (j := q) dX6_walks_86 J.a27 rfl (by omega) (by decide) rfl ?_
          rw [hs2 27 _ (by omega), e27]
          refine bq_istore (i := 4) dX6_walks_87 (by decide) ?_
          refine bq_iload_n (i := 3) dX6_walks_89 rfl ?_
          refine bq_iconst (v := (-1 : Int32)) dX6_walks_90 (by decide) ?_
          refine bq_icmp_eq (tgt := 112) dX6_walks_91 (by decide) (fun c_91 => ?_) (fun z9_ => absurd (show m_oi none = (-1 : Int32) from rfl) z9_)
          refine bq_iconst (v := (nI 0)) dX6_walks_112 (by decide) ?_
          refine bq_istore (i := 5) dX6_walks_113 (by decide) ?_
          refine bq_iload (i := 4) dX6_walks_115 rfl ?_
          refine bq_iconst (v := (-1 : Int32)) dX6_walks_117 (by decide) ?_
          refine bq_icmp_eq (tgt := 158) dX6_walks_118 (by decide) (fun z9_ => absurd z9_ (show ¬ m_oi (some u) = (-1 : Int32) from m_nI_ne (by omega))) (fun c_118 => ?_)
          refine bq_aload_n (i := 0) dX6_walks_121 rfl ?_
          refine bq_iload (i := 4) dX6_walks_122 rfl ?_
          refine bt_callVr (c := 6) (i := 0) dX6_walks_124 rfl ml_X6_92 (by first | assumption | exact J.v3 | exact J.v4 | exact J.v5 | exact J.v6 | exact J.l0 | exact J.l1 | exact J.l2 | exact J.l3 | exact J.row (by assumption) | exact J.ops (by assumption) | exact J.job (by assumption)) (by decide) (n_finish J (by omega)) (by decide) (by decide) (Nat.le_of_ble_eq_true rfl) rfl ?_
          rw [hs2.fin]
          refine bq_aload_n (i := 0) dX6_walks_127 rfl ?_
          refine bq_aload_n (i := 0) dX6_walks_128 rfl ?_
          refine bt_get3 (c' := 8) (n := 23) dX6_walks_129 fl_X6_41 (by first | assumption | exact J.v3 | exact J.v4 | exact J.v5 | exact J.v6 | exact J.l0 | exact J.l1 | exact J.l2 | exact J.l3 | exact J.row (by assumption) | exact J.ops (by assumption) | exact J.job (by assumption)) ⟨rfl, rfl, rfl⟩ (by decide) ?_
          refine bq_iload (i := 4) dX6_walks_132 rfl ?_
          refine bt_iald4 (n := 23) (j := u) dX6_walks_134 J.a23 rfl (by omega) (by decide) rfl ?_
          rw [g1]
          refine bq_aload_n (i := 0) dX6_walks_135 rfl ?_
          refine bt_get3 (c' := 8) (n := 23) dX6_walks_136 fl_X6_41 (by first | assumption | exact J.v3 | exact J.v4 | exact J.v5 | exact J.v6 | exact J.l0 | exact J.l1 | exact J.l2 | exact J.l3 | exact J.row (by assumption) | exact J.ops (by assumption) | exact J.job (by assumption)) ⟨rfl, rfl, rfl⟩ (by decide) ?_
          refine bq_iload_n (i := 2) dX6_walks_139 rfl ?_
          refine bt_iald4 (n := 23) (j := q) dX6_walks_140 J.a23 rfl (by omega) (by decide) rfl ?_
          rw [f1]
          refine bt_callVr (c := 6) (i := 0) dX6_walks_141 rfl ml_X6_96 (by first | assumption | exact J.v3 | exact J.v4 | exact J.v5 | exact J.v6 | exact J.l0 | exact J.l1 | exact J.l2 | exact J.l3 | exact J.row (by assumption) | exact J.ops (by assumption) | exact J.job (by assumption)) (by decide) (n_setup J g2 f2) (by decide) (by decide) (Nat.le_of_ble_eq_true rfl) rfl ?_
          refine bq_iadd dX6_walks_144 ?_
          refine bq_aload_n (i := 0) dX6_walks_145 rfl ?_
          refine bt_get3 (c' := 8) (n := 29) dX6_walks_146 fl_X6_59 (by first | assumption | exact J.v3 | exact J.v4 | exact J.v5 | exact J.v6 | exact J.l0 | exact J.l1 | exact J.l2 | exact J.l3 | exact J.row (by assumption) | exact J.ops (by assumption) | exact J.job (by assumption)) ⟨rfl, rfl, rfl⟩ (by decide) ?_
          refine bq_iload_n (i := 2) dX6_walks_149 rfl ?_
          refine bt_iald0 (n := 29) (j := q) dX6_walks_150 J.a29 rfl (by omega) (by decide) rfl ?_
          rw [hs2 29 _ (by omega)]
          refine bq_icmp_ne (tgt := 158) dX6_walks_151 (by decide) (fun c_151 => ?_) (fun c_151 => ?_)
          · refine bq_iconst (v := (nI 0)) dX6_walks_158 (by decide) ?_
            refine bq_istore (i := 6) dX6_walks_159 (by decide) ?_
            have en : m_nxt σ y q = none := by
              unfold m_nxt
              rw [hb]
              simp only []
              unfold m_nx2
              rw [hu]
              try simp only []
              rw [if_neg c_151]
            rw [en] at kk2
            refine bq_lvs (lv' := [(0, .ref (bt_ad α 6 0)), (2, .int (nI q)), (3, .int (m_oi none)), (4, .int (m_oi (some u))), (5, .int (nI 0)), (6, .int (nI 0))]) ⟨rfl, rfl, rfl, rfl, rfl, rfl, trivial⟩ ?_
            refine n_walk_e ?_
            rw [show (if nI 0 = 0 then (if nI 0 = 0 then (-1 : Int32) else m_oi (some u)) else m_oi none) = m_oi (none) from ((if_pos (by decide)).trans (if_pos (by decide)))]
            exact kk2
          · refine bq_iconst (v := (nI 1)) dX6_walks_154 (by decide) ?_
            refine bq_goto (tgt := 159) dX6_walks_155 (by decide) ?_
            refine bq_istore (i := 6) dX6_walks_159 (by decide) ?_
            have en : m_nxt σ y q = some u := by
              unfold m_nxt
              rw [hb]
              simp only []
              unfold m_nx2
              rw [hu]
              try simp only []
              rw [if_pos c_151]
            rw [en] at kk2
            refine bq_lvs (lv' := [(0, .ref (bt_ad α 6 0)), (2, .int (nI q)), (3, .int (m_oi none)), (4, .int (m_oi (some u))), (5, .int (nI 0)), (6, .int (nI 1))]) ⟨rfl, rfl, rfl, rfl, rfl, rfl, trivial⟩ ?_
            refine n_walk_e ?_
            rw [show (if nI 0 = 0 then (if nI 1 = 0 then (-1 : Int32) else m_oi (some u)) else m_oi none) = m_oi (some u) from ((if_pos (by decide)).trans (if_neg (by decide)))]
            exact kk2
      | some b =>
        have hbl := m_bef_l hb
        cases hu : m_opt (y.1 8 27 q) with
        | none =>
          rw [hu] at e27
          refine bq_iload_n (i := 2) dX6_walks_49 rfl ?_
          refine bq_iconst (v := (-1 : Int32)) dX6_walks_50 (by decide) ?_
          refine bq_icmp_eq (tgt := 185) dX6_walks_51 (by decide) (fun z9_ => absurd z9_ (show ¬ nI q = (-1 : Int32) from m_nI_ne (by omega))) (fun c_51 => ?_)
          refine bq_aload_n (i := 0) dX6_walks_54 rfl ?_
          refine bt_get3 (c' := 8) (n := 32) dX6_walks_55 fl_X6_65 (by first | assumption | exact J.v3 | exact J.v4 | exact J.v5 | exact J.v6 | exact J.l0 | exact J.l1 | exact J.l2 | exact J.l3 | exact J.row (by assumption) | exact J.ops (by assumption) | exact J.job (by assumption)) ⟨rfl, rfl, rfl⟩ (by decide) ?_
          refine bq_aload_n (i := 0) dX6_walks_58 rfl ?_
          refine bt_get0 dX6_walks_59 fl_X6_166 (by first | assumption | exact J.v3 | exact J.v4 | exact J.v5 | exact J.v6 | exact J.l0 | exact J.l1 | exact J.l2 | exact J.l3 | exact J.row (by assumption) | exact J.ops (by assumption) | exact J.job (by assumption)) rfl (by decide) ?_
          rw [h21]
          refine bq_iload_n (i := 2) dX6_walks_62 rfl ?_
          refine bt_iast0 (n := 32) (j := k) dX6_walks_63 J.a32 rfl (by omega) (by decide) rfl ?_
          refine bq_aload_n (i := 0) dX6_walks_64 rfl ?_
          refine bq_dup dX6_walks_65 rfl ?_
          refine bt_get0 dX6_walks_66 fl_X6_166 (by first | assumption | exact J.v3 | exact J.v4 | exact J.v5 | exact J.v6 | exact J.l0 | exact J.l1 | exact J.l2 | exact J.l3 | exact J.row (by assumption) | exact J.ops (by assumption) | exact J.job (by assumption)) rfl (by decide) ?_
          rw [b_gs_ne (by omega), h21]
          refine bq_iconst (v := (nI 1)) dX6_walks_69 (by decide) ?_
          refine bq_iadd dX6_walks_70 ?_
          rw [nI_add]
          refine bt_put0 dX6_walks_71 fl_X6_166 (by first | assumption | exact J.v3 | exact J.v4 | exact J.v5 | exact J.v6 | exact J.l0 | exact J.l1 | exact J.l2 | exact J.l3 | exact J.row (by assumption) | exact J.ops (by assumption) | exact J.job (by assumption)) rfl (by decide) (by first | rfl | decide) (by first | rfl | decide) ?_
          refine bq_aload_n (i := 0) dX6_walks_74 rfl ?_
          refine bq_iload_n (i := 2) dX6_walks_75 rfl ?_
          refine bq_iconst (v := (-1 : Int32)) dX6_walks_76 (by decide) ?_
          refine bt_callVr (c := 6) (i := 0) dX6_walks_77 rfl ml_X6_88 (by first | assumption | exact J.v3 | exact J.v4 | exact J.v5 | exact J.v6 | exact J.l0 | exact J.l1 | exact J.l2 | exact J.l3 | exact J.row (by assumption) | exact J.ops (by assumption) | exact J.job (by assumption)) (by decide) (n_bef J hq) (by decide) (by decide) (Nat.le_of_ble_eq_true rfl) rfl ?_
          rw [hs2.bef, hb]
          refine bq_istore_n (i := 3) dX6_walks_80 (by decide) ?_
          refine bq_aload_n (i := 0) dX6_walks_81 rfl ?_
          refine bt_get3 (c' := 8) (n := 27) dX6_walks_82 fl_X6_53 (by first | assumption | exact J.v3 | exact J.v4 | exact J.v5 | exact J.v6 | exact J.l0 | exact J.l1 | exact J.l2 | exact J.l3 | exact J.row (by assumption) | exact J.ops (by assumption) | exact J.job (by assumption)) ⟨rfl, rfl, rfl⟩ (by decide) ?_
          refine bq_iload_n (i := 2) dX6_walks_85 rfl ?_
          refine bt_iald0 (n := 27) (j := q) dX6_walks_86 J.a27 rfl (by omega) (by decide) rfl ?_
          rw [hs2 27 _ (by omega), e27]
          refine bq_istore (i := 4) dX6_walks_87 (by decide) ?_
          refine bq_iload_n (i := 3) dX6_walks_89 rfl ?_
          refine bq_iconst (v := (-1 : Int32)) dX6_walks_90 (by decide) ?_
          refine bq_icmp_eq (tgt := 112) dX6_walks_91 (by decide) (fun z9_ => absurd z9_ (show ¬ m_oi (some b) = (-1 : Int32) from m_nI_ne (by omega))) (fun c_91 => ?_)
          refine bq_aload_n (i := 0) dX6_walks_94 rfl ?_
          refine bq_iload_n (i := 3) dX6_walks_95 rfl ?_
          refine bt_callVr (c := 6) (i := 0) dX6_walks_96 rfl ml_X6_92 (by first | assumption | exact J.v3 | exact J.v4 | exact J.v5 | exact J.v6 | exact J.l0 | exact J.l1 | exact J.l2 | exact J.l3 | exact J.row (by assumption) | exact J.ops (by assumption) | exact J.job (by assumption)) (by decide) (n_finish J (by omega)) (by decide) (by decide) (Nat.le_of_ble_eq_true rfl) rfl ?_
          rw [hs2.fin]
          refine bq_aload_n (i := 0) dX6_walks_99 rfl ?_
          refine bt_get3 (c' := 8) (n := 29) dX6_walks_100 fl_X6_59 (by first | assumption | exact J.v3 | exact J.v4 | exact J.v5 | exact J.v6 | exact J.l0 | exact J.l1 | exact J.l2 | exact J.l3 | exact J.row (by assumption) | exact J.ops (by assumption) | exact J.job (by assumption)) ⟨rfl, rfl, rfl⟩ (by decide) ?_
          refine bq_iload_n (i := 2) dX6_walks_103 rfl ?_
          refine bt_iald0 (n := 29) (j := q) dX6_walks_104 J.a29 rfl (by omega) (by decide) rfl ?_
          rw [hs2 29 _ (by omega)]
          refine bq_icmp_ne (tgt := 112) dX6_walks_105 (by decide) (fun c_105 => ?_) (fun c_105 => ?_)
          · refine bq_iconst (v := (nI 0)) dX6_walks_112 (by decide) ?_
            refine bq_istore (i := 5) dX6_walks_113 (by decide) ?_
            refine bq_iload (i := 4) dX6_walks_115 rfl ?_
            refine bq_iconst (v := (-1 : Int32)) dX6_walks_117 (by decide) ?_
            refine bq_icmp_eq (tgt := 158) dX6_walks_118 (by decide) (fun c_118 => ?_) (fun z9_ => absurd (show m_oi none = (-1 : Int32) from rfl) z9_)
            refine bq_iconst (v := (nI 0)) dX6_walks_158 (by decide) ?_
            refine bq_istore (i := 6) dX6_walks_159 (by decide) ?_
            have en : m_nxt σ y q = none := by
              unfold m_nxt
              rw [hb]
              simp only []
              rw [if_neg c_105]
              unfold m_nx2
              rw [hu]
              try simp only []
            rw [en] at kk2
            refine bq_lvs (lv' := [(0, .ref (bt_ad α 6 0)), (2, .int (nI q)), (3, .int (m_oi (some b))), (4, .int (m_oi none)), (5, .int (nI 0)), (6, .int (nI 0))]) ⟨rfl, rfl, rfl, rfl, rfl, rfl, trivial⟩ ?_
            refine n_walk_e ?_
            rw [show (if nI 0 = 0 then (if nI 0 = 0 then (-1 : Int32) else m_oi none) else m_oi (some b)) = m_oi (none) from ((if_pos (by decide)).trans (if_pos (by decide)))]
            exact kk2
          · refine bq_iconst (v := (nI 1)) dX6_walks_108 (by decide) ?_
            refine bq_goto (tgt := 113) dX6_walks_109 (by decide) ?_
            refine bq_istore (i := 5) dX6_walks_113 (by decide) ?_
            refine bq_iload (i := 4) dX6_walks_115 rfl ?_
            refine bq_iconst (v := (-1 : Int32)) dX6_walks_117 (by decide) ?_
            refine bq_icmp_eq (tgt := 158) dX6_walks_118 (by decide) (fun c_118 => ?_) (fun z9_ => absurd (show m_oi none = (-1 : Int32) from rfl) z9_)
            refine bq_iconst (v := (nI 0)) dX6_walks_158 (by decide) ?_
            refine bq_istore (i := 6) dX6_walks_159 (by decide) ?_
            have en : m_nxt σ y q = some b := by
              unfold m_nxt
              rw [hb]
              simp only []
              rw [if_pos c_105]
            rw [en] at kk2
            refine bq_lvs (lv' := [(0, .ref (bt_ad α 6 0)), (2, .int (nI q)), (3, .int (m_oi (some b))), (4, .int (m_oi none)), (5, .int (nI 1)), (6, .int (nI 0))]) ⟨rfl, rfl, rfl, rfl, rfl, rfl, trivial⟩ ?_
            refine n_walk_e ?_
            rw [show (if nI 1 = 0 then (if nI 0 = 0 then (-1 : Int32) else m_oi none) else m_oi (some b)) = m_oi (some b) from (if_neg (by decide))]
            exact kk2
        | some u =>
          rw [hu] at e27
          have hul := m_opt_l hl hu
          obtain ⟨g1, g2⟩ := m_fm_e hK hul
          refine bq_iload_n (i := 2) dX6_walks_49 rfl ?_
          refine bq_iconst (v := (-1 : Int32)) dX6_walks_50 (by decide) ?_
          refine bq_icmp_eq (tgt := 185) dX6_walks_51 (by decide) (fun z9_ => absurd z9_ (show ¬ nI q = (-1 : Int32) from m_nI_ne (by omega))) (fun c_51 => ?_)
          refine bq_aload_n (i := 0) dX6_walks_54 rfl ?_
          refine bt_get3 (c' := 8) (n := 32) dX6_walks_55 fl_X6_65 (by first | assumption | exact J.v3 | exact J.v4 | exact J.v5 | exact J.v6 | exact J.l0 | exact J.l1 | exact J.l2 | exact J.l3 | exact J.row (by assumption) | exact J.ops (by assumption) | exact J.job (by assumption)) ⟨rfl, rfl, rfl⟩ (by decide) ?_
          refine bq_aload_n (i := 0) dX6_walks_58 rfl ?_
          refine bt_get0 dX6_walks_59 fl_X6_166 (by first | assumption | exact J.v3 | exact J.v4 | exact J.v5 | exact J.v6 | exact J.l0 | exact J.l1 | exact J.l2 | exact J.l3 | exact J.row (by assumption) | exact J.ops (by assumption) | exact J.job (by assumption)) rfl (by decide) ?_
          rw [h21]
          refine bq_iload_n (i := 2) dX6_walks_62 rfl ?_
          refine bt_iast0 (n := 32) (j := k) dX6_walks_63 J.a32 rfl (by omega) (by decide) rfl ?_
          refine bq_aload_n (i := 0) dX6_walks_64 rfl ?_
          refine bq_dup dX6_walks_65 rfl ?_
          refine bt_get0 dX6_walks_66 fl_X6_166 (by first | assumption | exact J.v3 | exact J.v4 | exact J.v5 | exact J.v6 | exact J.l0 | exact J.l1 | exact J.l2 | exact J.l3 | exact J.row (by assumption) | exact J.ops (by assumption) | exact J.job (by assumption)) rfl (by decide) ?_
          rw [b_gs_ne (by omega), h21]
          refine bq_iconst (v := (nI 1)) dX6_walks_69 (by decide) ?_
          refine bq_iadd dX6_walks_70 ?_
          rw [nI_add]
          refine bt_put0 dX6_walks_71 fl_X6_166 (by first | assumption | exact J.v3 | exact J.v4 | exact J.v5 | exact J.v6 | exact J.l0 | exact J.l1 | exact J.l2 | exact J.l3 | exact J.row (by assumption) | exact J.ops (by assumption) | exact J.job (by assumption)) rfl (by decide) (by first | rfl | decide) (by first | rfl | decide) ?_
          refine bq_aload_n (i := 0) dX6_walks_74 rfl ?_
          refine bq_iload_n (i := 2) dX6_walks_75 rfl ?_
          refine bq_iconst (v := (-1 : Int32)) dX6_walks_76 (by decide) ?_
          refine bt_callVr (c := 6) (i := 0) dX6_walks_77 rfl ml_X6_88 (by first | assumption | exact J.v3 | exact J.v4 | exact J.v5 | exact J.v6 | exact J.l0 | exact J.l1 | exact J.l2 | exact J.l3 | exact J.row (by assumption) | exact J.ops (by assumption) | exact J.job (by assumption)) (by decide) (n_bef J hq) (by decide) (by decide) (Nat.le_of_ble_eq_true rfl) rfl ?_
          rw [hs2.bef, hb]
          refine bq_istore_n (i := 3) dX6_walks_80 (by decide) ?_
          refine bq_aload_n (i := 0) dX6_walks_81 rfl ?_
          refine bt_get3 (c' := 8) (n := 27) dX6_walks_82 fl_X6_53 (by first | assumption | exact J.v3 | exact J.v4 | exact J.v5 | exact J.v6 | exact J.l0 | exact J.l1 | exact J.l2 | exact J.l3 | exact J.row (by assumption) | exact J.ops (by assumption) | exact J.job (by assumption)) ⟨rfl, rfl, rfl⟩ (by decide) ?_
          refine bq_iload_n (i := 2) dX6_walks_85 rfl ?_
          refine bt_iald0 (n := 27) (j := q) dX6_walks_86 J.a27 rfl (by omega) (by decide) rfl ?_
          rw [hs2 27 _ (by omega), e27]
          refine bq_istore (i := 4) dX6_walks_87 (by decide) ?_
          refine bq_iload_n (i := 3) dX6_walks_89 rfl ?_
          refine bq_iconst (v := (-1 : Int32)) dX6_walks_90 (by decide) ?_
          refine bq_icmp_eq (tgt := 112) dX6_walks_91 (by decide) (fun z9_ => absurd z9_ (show ¬ m_oi (some b) = (-1 : Int32) from m_nI_ne (by omega))) (fun c_91 => ?_)
          refine bq_aload_n (i := 0) dX6_walks_94 rfl ?_
          refine bq_iload_n (i := 3) dX6_walks_95 rfl ?_
          refine bt_callVr (c := 6) (i := 0) dX6_walks_96 rfl ml_X6_92 (by first | assumption | exact J.v3 | exact J.v4 | exact J.v5 | exact J.v6 | exact J.l0 | exact J.l1 | exact J.l2 | exact J.l3 | exact J.row (by assumption) | exact J.ops (by assumption) | exact J.job (by assumption)) (by decide) (n_finish J (by omega)) (by decide) (by decide) (Nat.le_of_ble_eq_true rfl) rfl ?_
          rw [hs2.fin]
          refine bq_aload_n (i := 0) dX6_walks_99 rfl ?_
          refine bt_get3 (c' := 8) (n := 29) dX6_walks_100 fl_X6_59 (by first | assumption | exact J.v3 | exact J.v4 | exact J.v5 | exact J.v6 | exact J.l0 | exact J.l1 | exact J.l2 | exact J.l3 | exact J.row (by assumption) | exact J.ops (by assumption) | exact J.job (by assumption)) ⟨rfl, rfl, rfl⟩ (by decide) ?_
          refine bq_iload_n (i := 2) dX6_walks_103 rfl ?_
          refine bt_iald0 (n := 29) (j := q) dX6_walks_104 J.a29 rfl (by omega) (by decide) rfl ?_
          rw [hs2 29 _ (by omega)]
          refine bq_icmp_ne (tgt := 112) dX6_walks_105 (by decide) (fun c_105 => ?_) (fun c_105 => ?_)
          · refine bq_iconst (v := (nI 0)) dX6_walks_112 (by decide) ?_
            refine bq_istore (i := 5) dX6_walks_113 (by decide) ?_
            refine bq_iload (i := 4) dX6_walks_115 rfl ?_
            refine bq_iconst (v := (-1 : Int32)) dX6_walks_117 (by decide) ?_
            refine bq_icmp_eq (tgt := 158) dX6_walks_118 (by decide) (fun z9_ => absurd z9_ (show ¬ m_oi (some u) = (-1 : Int32) from m_nI_ne (by omega))) (fun c_118 => ?_)
            refine bq_aload_n (i := 0) dX6_walks_121 rfl ?_
            refine bq_iload (i := 4) dX6_walks_122 rfl ?_
            refine bt_callVr (c := 6) (i := 0) dX6_walks_124 rfl ml_X6_92 (by first | assumption | exact J.v3 | exact J.v4 | exact J.v5 | exact J.v6 | exact J.l0 | exact J.l1 | exact J.l2 | exact J.l3 | exact J.row (by assumption) | exact J.ops (by assumption) | exact J.job (by assumption)) (by decide) (n_finish J (by omega)) (by decide) (by decide) (Nat.le_of_ble_eq_true rfl) rfl ?_
            rw [hs2.fin]
            refine bq_aload_n (i := 0) dX6_walks_127 rfl ?_
            refine bq_aload_n (i := 0) dX6_walks_128 rfl ?_
            refine bt_get3 (c' := 8) (n := 23) dX6_walks_129 fl_X6_41 (by first | assumption | exact J.v3 | exact J.v4 | exact J.v5 | exact J.v6 | exact J.l0 | exact J.l1 | exact J.l2 | exact J.l3 | exact J.row (by assumption) | exact J.ops (by assumption) | exact J.job (by assumption)) ⟨rfl, rfl, rfl⟩ (by decide) ?_
            refine bq_iload (i := 4) dX6_walks_132 rfl ?_
            refine bt_iald4 (n := 23) (j := u) dX6_walks_134 J.a23 rfl (by omega) (by decide) rfl ?_
            rw [g1]
            refine bq_aload_n (i := 0) dX6_walks_135 rfl ?_
            refine bt_get3 (c' := 8) (n := 23) dX6_walks_136 fl_X6_41 (by first | assumption | exact J.v3 | exact J.v4 | exact J.v5 | exact J.v6 | exact J.l0 | exact J.l1 | exact J.l2 | exact J.l3 | exact J.row (by assumption) | exact J.ops (by assumption) | exact J.job (by assumption)) ⟨rfl, rfl, rfl⟩ (by decide) ?_
            refine bq_iload_n (i := 2) dX6_walks_139 rfl ?_
            refine bt_iald4 (n := 23) (j := q) dX6_walks_140 J.a23 rfl (by omega) (by decide) rfl ?_
            rw [f1]
            refine bt_callVr (c := 6) (i := 0) dX6_walks_141 rfl ml_X6_96 (by first | assumption | exact J.v3 | exact J.v4 | exact J.v5 | exact J.v6 | exact J.l0 | exact J.l1 | exact J.l2 | exact J.l3 | exact J.row (by assumption) | exact J.ops (by assumption) | exact J.job (by assumption)) (by decide) (n_setup J g2 f2) (by decide) (by decide) (Nat.le_of_ble_eq_true rfl) rfl ?_
            refine bq_iadd dX6_walks_144 ?_
            refine bq_aload_n (i := 0) dX6_walks_145 rfl ?_
            refine bt_get3 (c' := 8) (n := 29) dX6_walks_146 fl_X6_59 (by first | assumption | exact J.v3 | exact J.v4 | exact J.v5 | exact J.v6 | exact J.l0 | exact J.l1 | exact J.l2 | exact J.l3 | exact J.row (by assumption) | exact J.ops (by assumption) | exact J.job (by assumption)) ⟨rfl, rfl, rfl⟩ (by decide) ?_
            refine bq_iload_n (i := 2) dX6_walks_149 rfl ?_
            refine bt_iald0 (n := 29) (j := q) dX6_walks_150 J.a29 rfl (by omega) (by decide) rfl ?_
            rw [hs2 29 _ (by omega)]
            refine bq_icmp_ne (tgt := 158) dX6_walks_151 (by decide) (fun c_151 => ?_) (fun c_151 => ?_)
            · refine bq_iconst (v := (nI 0)) dX6_walks_158 (by decide) ?_
              refine bq_istore (i := 6) dX6_walks_159 (by decide) ?_
              have en : m_nxt σ y q = none := by
                unfold m_nxt
                rw [hb]
                simp only []
                rw [if_neg c_105]
                unfold m_nx2
                rw [hu]
                try simp only []
                rw [if_neg c_151]
              rw [en] at kk2
              refine bq_lvs (lv' := [(0, .ref (bt_ad α 6 0)), (2, .int (nI q)), (3, .int (m_oi (some b))), (4, .int (m_oi (some u))), (5, .int (nI 0)), (6, .int (nI 0))]) ⟨rfl, rfl, rfl, rfl, rfl, rfl, trivial⟩ ?_
              refine n_walk_e ?_
              rw [show (if nI 0 = 0 then (if nI 0 = 0 then (-1 : Int32) else m_oi (some u)) else m_oi (some b)) = m_oi (none) from ((if_pos (by decide)).trans (if_pos (by decide)))]
              exact kk2
            · refine bq_iconst (v := (nI 1)) dX6_walks_154 (by decide) ?_
              refine bq_goto (tgt := 159) dX6_walks_155 (by decide) ?_
              refine bq_istore (i := 6) dX6_walks_159 (by decide) ?_
              have en : m_nxt σ y q = some u := by
                unfold m_nxt
                rw [hb]
                simp only []
                rw [if_neg c_105]
                unfold m_nx2
                rw [hu]
                try simp only []
                rw [if_pos c_151]
              rw [en] at kk2
              refine bq_lvs (lv' := [(0, .ref (bt_ad α 6 0)), (2, .int (nI q)), (3, .int (m_oi (some b))), (4, .int (m_oi (some u))), (5, .int (nI 0)), (6, .int (nI 1))]) ⟨rfl, rfl, rfl, rfl, rfl, rfl, trivial⟩ ?_
              refine n_walk_e ?_
              rw [show (if nI 0 = 0 then (if nI 1 = 0 then (-1 : Int32) else m_oi (some u)) else m_oi (some b)) = m_oi (some u) from ((if_pos (by decide)).trans (if_neg (by decide)))]
              exact kk2
          · refine bq_iconst (v := (nI 1)) dX6_walks_108 (by decide) ?_
            refine bq_goto (tgt := 113) dX6_walks_109 (by decide) ?_
            refine bq_istore (i := 5) dX6_walks_113 (by decide) ?_
            refine bq_iload (i := 4) dX6_walks_115 rfl ?_
            refine bq_iconst (v := (-1 : Int32)) dX6_walks_117 (by decide) ?_
            refine bq_icmp_eq (tgt := 158) dX6_walks_118 (by decide) (fun z9_ => absurd z9_ (show ¬ m_oi (some u) = (-1 : Int32) from m_nI_ne (by omega))) (fun c_118 => ?_)
            refine bq_aload_n (i := 0) dX6_walks_121 rfl ?_
            refine bq_iload (i := 4) dX6_walks_122 rfl ?_
            refine bt_callVr (c := 6) (i := 0) dX6_walks_124 rfl ml_X6_92 (by first | assumption | exact J.v3 | exact J.v4 | exact J.v5 | exact J.v6 | exact J.l0 | exact J.l1 | exact J.l2 | exact J.l3 | exact J.row (by assumption) | exact J.ops (by assumption) | exact J.job (by assumption)) (by decide) (n_finish J (by omega)) (by decide) (by decide) (Nat.le_of_ble_eq_true rfl) rfl ?_
            rw [hs2.fin]
            refine bq_aload_n (i := 0) dX6_walks_127 rfl ?_
            refine bq_aload_n (i := 0) dX6_walks_128 rfl ?_
            refine bt_get3 (c' := 8) (n := 23) dX6_walks_129 fl_X6_41 (by first | assumption | exact J.v3 | exact J.v4 | exact J.v5 | exact J.v6 | exact J.l0 | exact J.l1 | exact J.l2 | exact J.l3 | exact J.row (by assumption) | exact J.ops (by assumption) | exact J.job (by assumption)) ⟨rfl, rfl, rfl⟩ (by decide) ?_
            refine bq_iload (i := 4) dX6_walks_132 rfl ?_
            refine bt_iald4 (n := 23) (j := u) dX6_walks_134 J.a23 rfl (by omega) (by decide) rfl ?_
            rw [g1]
            refine bq_aload_n (i := 0) dX6_walks_135 rfl ?_
            refine bt_get3 (c' := 8) (n := 23) dX6_walks_136 fl_X6_41 (by first | assumption | exact J.v3 | exact J.v4 | exact J.v5 | exact J.v6 | exact J.l0 | exact J.l1 | exact J.l2 | exact J.l3 | exact J.row (by assumption) | exact J.ops (by assumption) | exact J.job (by assumption)) ⟨rfl, rfl, rfl⟩ (by decide) ?_
            refine bq_iload_n (i := 2) dX6_walks_139 rfl ?_
            refine bt_iald4 (n := 23) (j := q) dX6_walks_140 J.a23 rfl (by omega) (by decide) rfl ?_
            rw [f1]
            refine bt_callVr (c := 6) (i := 0) dX6_walks_141 rfl ml_X6_96 (by first | assumption | exact J.v3 | exact J.v4 | exact J.v5 | exact J.v6 | exact J.l0 | exact J.l1 | exact J.l2 | exact J.l3 | exact J.row (by assumption) | exact J.ops (by assumption) | exact J.job (by assumption)) (by decide) (n_setup J g2 f2) (by decide) (by decide) (Nat.le_of_ble_eq_true rfl) rfl ?_
            refine bq_iadd dX6_walks_144 ?_
            refine bq_aload_n (i := 0) dX6_walks_145 rfl ?_
            refine bt_get3 (c' := 8) (n := 29) dX6_walks_146 fl_X6_59 (by first | assumption | exact J.v3 | exact J.v4 | exact J.v5 | exact J.v6 | exact J.l0 | exact J.l1 | exact J.l2 | exact J.l3 | exact J.row (by assumption) | exact J.ops (by assumption) | exact J.job (by assumption)) ⟨rfl, rfl, rfl⟩ (by decide) ?_
            refine bq_iload_n (i := 2) dX6_walks_149 rfl ?_
            refine bt_iald0 (n := 29) (j := q) dX6_walks_150 J.a29 rfl (by omega) (by decide) rfl ?_
            rw [hs2 29 _ (by omega)]
            refine bq_icmp_ne (tgt := 158) dX6_walks_151 (by decide) (fun c_151 => ?_) (fun c_151 => ?_)
            · refine bq_iconst (v := (nI 0)) dX6_walks_158 (by decide) ?_
              refine bq_istore (i := 6) dX6_walks_159 (by decide) ?_
              have en : m_nxt σ y q = some b := by
                unfold m_nxt
                rw [hb]
                simp only []
                rw [if_pos c_105]
              rw [en] at kk2
              refine bq_lvs (lv' := [(0, .ref (bt_ad α 6 0)), (2, .int (nI q)), (3, .int (m_oi (some b))), (4, .int (m_oi (some u))), (5, .int (nI 1)), (6, .int (nI 0))]) ⟨rfl, rfl, rfl, rfl, rfl, rfl, trivial⟩ ?_
              refine n_walk_e ?_
              rw [show (if nI 1 = 0 then (if nI 0 = 0 then (-1 : Int32) else m_oi (some u)) else m_oi (some b)) = m_oi (some b) from (if_neg (by decide))]
              exact kk2
            · refine bq_iconst (v := (nI 1)) dX6_walks_154 (by decide) ?_
              refine bq_goto (tgt := 159) dX6_walks_155 (by decide) ?_
              refine bq_istore (i := 6) dX6_walks_159 (by decide) ?_
              have en : m_nxt σ y q = some b := by
                unfold m_nxt
                rw [hb]
                simp only []
                rw [if_pos c_105]
              rw [en] at kk2
              refine bq_lvs (lv' := [(0, .ref (bt_ad α 6 0)), (2, .int (nI q)), (3, .int (m_oi (some b))), (4, .int (m_oi (some u))), (5, .int (nI 1)), (6, .int (nI 1))]) ⟨rfl, rfl, rfl, rfl, rfl, rfl, trivial⟩ ?_
              refine n_walk_e ?_
              rw [show (if nI 1 = 0 then (if nI 1 = 0 then (-1 : Int32) else m_oi (some u)) else m_oi (some b)) = m_oi (some b) from (if_neg (by decide))]
              exact kk2
noncomputable def m_last (σ x : bt_X) : Option Nat := m_lst σ (m_wS σ x) (m_spanOf σ x) m_32 none
noncomputable def m_plist (σ x : bt_X) : List Nat := m_pl σ (m_wS σ x) m_32 (m_last σ x)
noncomputable def m_walks (σ x : bt_X) : bt_X := m_pst (m_plist σ x) 0 (bt_gs (m_wS σ x) 6 0 21 (nI 0))
def m_Trm (σ x : bt_X) : Prop := m_trm σ (m_wS σ x) m_32 (m_last σ x)
theorem m_pst_n {c i k : Nat} (h : ¬ (c = 8 ∧ i = 32) ∧ ¬ (c = 6 ∧ k = 21)) : ∀ (l : List Nat) (k' : Nat) (x : bt_X), (m_pst l k' x).1 c i k = x.1 c i k := by
  intro l
  induction l with
  | nil => intro k' x; rfl
  | cons q l ih =>
    intro k' x
    unfold m_pst
    rw [ih, b_gs_ne (by omega), b_gs_ne (by omega)]
theorem m_walks_n {σ x : bt_X} {c i k : Nat} (h : ¬ (c = 8 ∧ ((26 ≤ i ∧ i ≤ 29) ∨ i = 32)) ∧ ¬ (c = 6 ∧ k = 21)) : (m_walks σ x).1 c i k = x.1 c i k := by
  unfold m_walks
  rw [m_pst_n (by omega), b_gs_ne (by omega), m_works_n (by omega)]
set_option maxRecDepth 100000 in
set_option maxHeartbeats 400000 in
theorem n_walks {G : bp_X} {α : bt_A} {σ x : bt_X}  (J : m_J α) (hN : m_Nn σ) (hK : m_K σ) (hR : m_Rw x) (hT : m_Trm σ x) : bq_S G mX6_walks 5 [.ref (bt_ad α 6 0)] (bt α σ x) (bq_ret none (bt α σ (m_walks σ x))) := by
  refine bq_ofW (by decide +kernel) rfl (Nat.le_of_ble_eq_true rfl) ?_
  refine bq_aload_n (i := 0) dX6_walks_0 rfl ?_
  refine bt_callVr (c := 6) (i := 0) dX6_walks_1 rfl ml_X6_113 (by first | assumption | exact J.v3 | exact J.v4 | exact J.v5 | exact J.v6 | exact J.l0 | exact J.l1 | exact J.l2 | exact J.l3 | exact J.row (by assumption) | exact J.ops (by assumption) | exact J.job (by assumption)) (by decide) (n_spanOf J hN hK hR) (by decide) (by decide) (Nat.le_of_ble_eq_true rfl) rfl ?_
  refine bq_istore_n (i := 1) dX6_walks_4 (by decide) ?_
  refine bq_iconst (v := (-1 : Int32)) dX6_walks_5 (by decide) ?_
  refine bq_istore_n (i := 2) dX6_walks_6 (by decide) ?_
  refine bq_bipush (v := (nI 31)) dX6_walks_7 (by decide) ?_
  rw [show (nI 31 : Int32) = nI m_32 + (-1 : Int32) by rw [m_32_e]; decide]
  refine bq_istore_n (i := 3) dX6_walks_9 (by decide) ?_
  refine bq_lvs (lv' := [(0, .ref (bt_ad α 6 0)), (1, .int (m_spanOf σ x)), (2, .int (m_oi none)), (3, .int (nI m_32 + (-1 : Int32)))]) ⟨rfl, rfl, rfl, rfl, trivial⟩ ?_
  refine n_lst J m_32 none (Nat.le_of_eq m_32_e) ?_
  refine bq_aload_n (i := 0) dX6_walks_44 rfl ?_
  refine bq_iconst (v := nI 0) dX6_walks_45 (by decide) ?_
  refine bt_put0 dX6_walks_46 fl_X6_166 (by exact J.v6) rfl (by decide) (by first | rfl | decide) (by first | rfl | decide) ?_
  refine n_walk (y := (m_wS σ x)) J hK (m_works_L hN hR) m_32 0 _ _ (by rw [m_32_e]; exact Nat.le_refl _) hT (fun i j hij => b_gs_ne (by omega)) (fun q hq => m_lst_l m_32 none (Nat.le_of_eq m_32_e) (fun q h => by cases h) q hq) b_gs_at ?_
  exact bq_vret dX6_walks_185 rfl bq_ret_i
/-! ===== the reference: set-ups, loads ===== -/
def m_ro (x : bt_X) (m k : Nat) : Nat := nN (x.1 8 16 (32 * m + k))
def m_rn (x : bt_X) (m : Nat) : Nat := nN (x.1 8 15 m)
theorem m_rn_e {x : bt_X} (hR : m_Rw x) {m : Nat} (hm : m < 4) : x.1 8 15 m = nI (m_rn x m) ∧ m_rn x m < 33 := (hR m hm).1
theorem m_ro_e {x : bt_X} (hR : m_Rw x) {m k : Nat} (hm : m < 4) (hk : k < m_rn x m) : x.1 8 16 (32 * m + k) = nI (m_ro x m k) ∧ m_ro x m k < 32 := (hR m hm).2 k hk
def m_sml (σ x : bt_X) (m : Nat) : Nat → Nat → Nat → Int32 → Int32
  | 0, _, _, s => s
  | n + 1, k, f, s => m_sml σ x m n (k + 1) (m_fm σ (m_ro x m k)) (s + m_su σ f (m_fm σ (m_ro x m k)))
def m_setups (σ x : bt_X) (a : Int32) : Int32 × bt_X := match b_ix (m_nm σ) a with
  | none => (nI 0, m_thr x (nI 1))
  | some m => (m_sml σ x m (m_rn x m) 0 0 (nI 0), m_thr x (nI 0))
theorem m_ix_e {n : Nat} {a : Int32} {j : Nat} (hn : n < 2 ^ 31) (h : b_ix n a = some j) : a = nI j ∧ j < n := ⟨(b_ix_s hn h).1, (b_ix_s hn h).2.1⟩
set_option maxRecDepth 100000 in
set_option maxHeartbeats 400000 in
theorem n_sml {G : bp_X} {α : bt_A} {σ x : bt_X} (J : m_J α) (hK : m_K σ) (hR : m_Rw x) (h0 : x.1 6 0 0 = nI 0) {m : Nat} (hm : m < 4) : ∀ (n k f : Nat) (s : Int32), n + k = m_rn x m → f < 4 → bq_W G mX6_setups 2 24 [(0, .ref (bt_ad α 6 0)), (1, .int (nI m)), (2, .int s), (3, .int (nI f)), (4, .int (nI k))] [] (bt α σ x) (bq_ret (some (.int (m_sml σ x m n k f s))) (bt α σ x)) := by
  obtain ⟨r1, r2⟩ := m_rn_e hR hm
  intro n
  induction n with
  | zero =>
    intro k f s hk hf
    unfold m_sml
    refine bq_aload_n (i := 0) dX6_setups_24 rfl ?_
    refine bt_get0 dX6_setups_25 fl_X6_74 (by first | assumption | exact J.v3 | exact J.v4 | exact J.v5 | exact J.v6 | exact J.l0 | exact J.l1 | exact J.l2 | exact J.l3 | exact J.row (by assumption) | exact J.ops (by assumption) | exact J.job (by assumption)) rfl (by decide) ?_
    rw [h0]
    refine bq_if_ne (tgt := 80) dX6_setups_28 (by decide) (fun z9_ => absurd (show nI 0 = 0 from rfl) z9_) (fun c_28 => ?_)
    refine bq_iload (i := 4) dX6_setups_31 rfl ?_
    refine bq_aload_n (i := 0) dX6_setups_33 rfl ?_
    refine bt_get3 (c' := 8) (n := 15) dX6_setups_34 fl_X6_19 (by first | assumption | exact J.v3 | exact J.v4 | exact J.v5 | exact J.v6 | exact J.l0 | exact J.l1 | exact J.l2 | exact J.l3 | exact J.row (by assumption) | exact J.ops (by assumption) | exact J.job (by assumption)) ⟨rfl, rfl, rfl⟩ (by decide) ?_
    refine bq_iload_n (i := 1) dX6_setups_37 rfl ?_
    refine bt_iald0 (n := 15) (j := m) dX6_setups_38 J.a15 rfl (by omega) (by decide) rfl ?_
    rw [r1]
    refine bq_icmp_ge (tgt := 80) dX6_setups_39 (by decide) (fun c_39 => ?_) (fun z9_ => absurd (show nI (m_rn x m) ≤ nI k from nI_le (by omega) (by omega)) z9_)
    refine bq_iload_n (i := 2) dX6_setups_80 rfl ?_
    exact bq_iret dX6_setups_81 rfl (by first | rfl | decide) bq_ret_i
  | succ n ih =>
    intro k f s hk hf
    obtain ⟨q1, q2⟩ := m_ro_e hR hm (show k < m_rn x m by omega)
    obtain ⟨g1, g2⟩ := m_fm_e hK q2
    unfold m_sml
    refine bq_aload_n (i := 0) dX6_setups_24 rfl ?_
    refine bt_get0 dX6_setups_25 fl_X6_74 (by first | assumption | exact J.v3 | exact J.v4 | exact J.v5 | exact J.v6 | exact J.l0 | exact J.l1 | exact J.l2 | exact J.l3 | exact J.row (by assumption) | exact J.ops (by assumption) | exact J.job (by assumption)) rfl (by decide) ?_
    rw [h0]
    refine bq_if_ne (tgt := 80) dX6_setups_28 (by decide) (fun z9_ => absurd (show nI 0 = 0 from rfl) z9_) (fun c_28 => ?_)
    refine bq_iload (i := 4) dX6_setups_31 rfl ?_
    refine bq_aload_n (i := 0) dX6_setups_33 rfl ?_
    refine bt_get3 (c' := 8) (n := 15) dX6_setups_34 fl_X6_19 (by first | assumption | exact J.v3 | exact J.v4 | exact J.v5 | exact J.v6 | exact J.l0 | exact J.l1 | exact J.l2 | exact J.l3 | exact J.row (by assumption) | exact J.ops (by assumption) | exact J.job (by assumption)) ⟨rfl, rfl, rfl⟩ (by decide) ?_
    refine bq_iload_n (i := 1) dX6_setups_37 rfl ?_
    refine bt_iald0 (n := 15) (j := m) dX6_setups_38 J.a15 rfl (by omega) (by decide) rfl ?_
    rw [r1]
    refine bq_icmp_ge (tgt := 80) dX6_setups_39 (by decide) (fun z9_ => absurd z9_ (show ¬ nI (m_rn x m) ≤ nI k from nI_ge (by omega) (by omega))) (fun c_39 => ?_)
    refine bq_aload_n (i := 0) dX6_setups_42 rfl ?_
    refine bt_get3 (c' := 8) (n := 23) dX6_setups_43 fl_X6_41 (by first | assumption | exact J.v3 | exact J.v4 | exact J.v5 | exact J.v6 | exact J.l0 | exact J.l1 | exact J.l2 | exact J.l3 | exact J.row (by assumption) | exact J.ops (by assumption) | exact J.job (by assumption)) ⟨rfl, rfl, rfl⟩ (by decide) ?_
    refine bq_aload_n (i := 0) dX6_setups_46 rfl ?_
    refine bt_get3 (c' := 8) (n := 16) dX6_setups_47 fl_X6_22 (by first | assumption | exact J.v3 | exact J.v4 | exact J.v5 | exact J.v6 | exact J.l0 | exact J.l1 | exact J.l2 | exact J.l3 | exact J.row (by assumption) | exact J.ops (by assumption) | exact J.job (by assumption)) ⟨rfl, rfl, rfl⟩ (by decide) ?_
    refine bq_bipush (v := (nI 32)) dX6_setups_50 (by decide) ?_
    refine bq_iload_n (i := 1) dX6_setups_52 rfl ?_
    refine bq_imul dX6_setups_53 ?_
    refine bq_iload (i := 4) dX6_setups_54 rfl ?_
    refine bq_iadd dX6_setups_56 ?_
    refine bt_iald0 (n := 16) (j := (32 * m + k)) dX6_setups_57 J.a16 (by rw [pk_mul, nI_add]) (by omega) (by decide) rfl ?_
    rw [q1]
    refine bt_iald4 (n := 23) (j := (m_ro x m k)) dX6_setups_58 J.a23 rfl (by omega) (by decide) rfl ?_
    rw [g1]
    refine bq_istore (i := 5) dX6_setups_59 (by decide) ?_
    refine bq_iload_n (i := 2) dX6_setups_61 rfl ?_
    refine bq_aload_n (i := 0) dX6_setups_62 rfl ?_
    refine bq_iload_n (i := 3) dX6_setups_63 rfl ?_
    refine bq_iload (i := 5) dX6_setups_64 rfl ?_
    refine bt_callVr (c := 6) (i := 0) dX6_setups_66 rfl ml_X6_96 (by first | assumption | exact J.v3 | exact J.v4 | exact J.v5 | exact J.v6 | exact J.l0 | exact J.l1 | exact J.l2 | exact J.l3 | exact J.row (by assumption) | exact J.ops (by assumption) | exact J.job (by assumption)) (by decide) (n_setup J hf g2) (by decide) (by decide) (Nat.le_of_ble_eq_true rfl) rfl ?_
    refine bq_iadd dX6_setups_69 ?_
    refine bq_istore_n (i := 2) dX6_setups_70 (by decide) ?_
    refine bq_iload (i := 5) dX6_setups_71 rfl ?_
    refine bq_istore_n (i := 3) dX6_setups_73 (by decide) ?_
    refine bq_iinc dX6_setups_74 rfl (by decide) (by first | exact bp_inc _ | rfl) ?_
    refine bq_goto (tgt := 24) dX6_setups_77 (by decide) ?_
    refine bq_lvs (lv' := [(0, .ref (bt_ad α 6 0)), (1, .int (nI m)), (2, .int _), (3, .int (nI (m_fm σ (m_ro x m k)))), (4, .int (nI (k + 1)))]) ⟨rfl, rfl, rfl, rfl, rfl, trivial⟩ ?_
    exact ih (k + 1) _ _ (by omega) g2
theorem m_Rw.thr {x : bt_X} (h : m_Rw x) {v : Int32} : m_Rw (m_thr x v) := h.ext (fun i k _ => by unfold m_thr; rw [b_gs_ne (by omega)])
theorem m_thr_n {x : bt_X} {v : Int32} {c i k : Nat} (h : ¬ (c = 6 ∧ k = 0)) : (m_thr x v).1 c i k = x.1 c i k := by unfold m_thr; rw [b_gs_ne (by omega)]
theorem m_thr_at {x : bt_X} {v : Int32} : (m_thr x v).1 6 0 0 = v := b_gs_at
theorem m_ro_thr {x : bt_X} {v : Int32} {m k : Nat} : m_ro (m_thr x v) m k = m_ro x m k := by unfold m_ro; rw [m_thr_n (by omega)]
theorem m_rn_thr {x : bt_X} {v : Int32} {m : Nat} : m_rn (m_thr x v) m = m_rn x m := by unfold m_rn; rw [m_thr_n (by omega)]
theorem m_sml_thr {σ x : bt_X} {v : Int32} {m : Nat} : ∀ (n k f : Nat) (s : Int32), m_sml σ (m_thr x v) m n k f s = m_sml σ x m n k f s := by
  intro n
  induction n with
  | zero => intro k f s; rfl
  | succ n ih =>
    intro k f s
    unfold m_sml
    rw [m_ro_thr, ih]
set_option maxRecDepth 100000 in
set_option maxHeartbeats 400000 in
theorem n_setups {G : bp_X} {α : bt_A} {σ x : bt_X} {a : Int32} (J : m_J α) (hN : m_Nn σ) (hK : m_K σ) (hR : m_Rw x) : bq_S G mX6_setups 2 [.ref (bt_ad α 6 0), .int a] (bt α σ x) (bq_ret (some (.int (m_setups σ x a).1)) (bt α σ (m_setups σ x a).2)) := by
  refine bq_ofW (by decide +kernel) rfl (Nat.le_of_ble_eq_true rfl) ?_
  cases e1 : b_ix (m_nm σ) a with
  | none =>
    rw [show m_setups σ x a = (nI 0, m_thr x (nI 1)) by unfold m_setups; rw [e1]]
    refine bq_aload_n (i := 0) dX6_setups_0 rfl ?_
    refine bq_aload_n (i := 0) dX6_setups_1 rfl ?_
    refine bq_iload_n (i := 1) dX6_setups_2 rfl ?_
    refine bt_callVr (c := 6) (i := 0) dX6_setups_3 rfl ml_X6_120 (by first | assumption | exact J.v3 | exact J.v4 | exact J.v5 | exact J.v6 | exact J.l0 | exact J.l1 | exact J.l2 | exact J.l3 | exact J.row (by assumption) | exact J.ops (by assumption) | exact J.job (by assumption)) (by decide) (n_isMachine J hN) (by decide) (by decide) (Nat.le_of_ble_eq_true rfl) rfl ?_
    rw [e1]
    refine bq_if_eq (tgt := 13) dX6_setups_6 (by decide) (fun c_6 => ?_) (fun z9_ => absurd (show m_q none = 0 from rfl) z9_)
    refine bq_iconst (v := (nI 1)) dX6_setups_13 (by decide) ?_
    refine bt_put0 dX6_setups_14 fl_X6_74 (by first | assumption | exact J.v3 | exact J.v4 | exact J.v5 | exact J.v6 | exact J.l0 | exact J.l1 | exact J.l2 | exact J.l3 | exact J.row (by assumption) | exact J.ops (by assumption) | exact J.job (by assumption)) rfl (by decide) (by first | rfl | decide) (by first | rfl | decide) ?_
    refine bq_iconst (v := (nI 0)) dX6_setups_17 (by decide) ?_
    refine bq_istore_n (i := 2) dX6_setups_18 (by decide) ?_
    refine bq_iconst (v := (nI 0)) dX6_setups_19 (by decide) ?_
    refine bq_istore_n (i := 3) dX6_setups_20 (by decide) ?_
    refine bq_iconst (v := (nI 0)) dX6_setups_21 (by decide) ?_
    refine bq_istore (i := 4) dX6_setups_22 (by decide) ?_
    refine bq_aload_n (i := 0) dX6_setups_24 rfl ?_
    refine bt_get0 dX6_setups_25 fl_X6_74 (by first | assumption | exact J.v3 | exact J.v4 | exact J.v5 | exact J.v6 | exact J.l0 | exact J.l1 | exact J.l2 | exact J.l3 | exact J.row (by assumption) | exact J.ops (by assumption) | exact J.job (by assumption)) rfl (by decide) ?_
    rw [b_gs_at]
    refine bq_if_ne (tgt := 80) dX6_setups_28 (by decide) (fun c_28 => ?_) (fun z9_ => absurd z9_ (show ¬ nI 1 = 0 by decide))
    refine bq_iload_n (i := 2) dX6_setups_80 rfl ?_
    exact bq_iret dX6_setups_81 rfl (by first | rfl | decide) bq_ret_i
  | some m =>
    have hb0 : m_nm σ < 9 := by have := hN.1.l; exact Nat.lt_of_lt_of_le this (by decide)
    obtain ⟨ea, hmn⟩ := m_ix_e (by omega) e1
    have hm4 : m < 4 := by have := hN.1.l; have e : m_nm σ = nN (σ.1 6 0 1) := rfl; omega
    rw [show m_setups σ x a = (m_sml σ x m (m_rn x m) 0 0 (nI 0), m_thr x (nI 0)) by unfold m_setups; rw [e1]]
    subst ea
    refine bq_aload_n (i := 0) dX6_setups_0 rfl ?_
    refine bq_aload_n (i := 0) dX6_setups_1 rfl ?_
    refine bq_iload_n (i := 1) dX6_setups_2 rfl ?_
    refine bt_callVr (c := 6) (i := 0) dX6_setups_3 rfl ml_X6_120 (by first | assumption | exact J.v3 | exact J.v4 | exact J.v5 | exact J.v6 | exact J.l0 | exact J.l1 | exact J.l2 | exact J.l3 | exact J.row (by assumption) | exact J.ops (by assumption) | exact J.job (by assumption)) (by decide) (n_isMachine J hN) (by decide) (by decide) (Nat.le_of_ble_eq_true rfl) rfl ?_
    rw [e1]
    refine bq_if_eq (tgt := 13) dX6_setups_6 (by decide) (fun z9_ => absurd z9_ (show ¬ m_q (some m) = 0 by show ¬ nI 1 = 0; decide)) (fun c_6 => ?_)
    refine bq_iconst (v := (nI 0)) dX6_setups_9 (by decide) ?_
    refine bq_goto (tgt := 14) dX6_setups_10 (by decide) ?_
    refine bt_put0 dX6_setups_14 fl_X6_74 (by first | assumption | exact J.v3 | exact J.v4 | exact J.v5 | exact J.v6 | exact J.l0 | exact J.l1 | exact J.l2 | exact J.l3 | exact J.row (by assumption) | exact J.ops (by assumption) | exact J.job (by assumption)) rfl (by decide) (by first | rfl | decide) (by first | rfl | decide) ?_
    refine bq_iconst (v := (nI 0)) dX6_setups_17 (by decide) ?_
    refine bq_istore_n (i := 2) dX6_setups_18 (by decide) ?_
    refine bq_iconst (v := (nI 0)) dX6_setups_19 (by decide) ?_
    refine bq_istore_n (i := 3) dX6_setups_20 (by decide) ?_
    refine bq_iconst (v := (nI 0)) dX6_setups_21 (by decide) ?_
    refine bq_istore (i := 4) dX6_setups_22 (by decide) ?_
    refine bq_lvs (lv' := [(0, .ref (bt_ad α 6 0)), (1, .int (nI m)), (2, .int (nI 0)), (3, .int (nI 0)), (4, .int (nI 0))]) ⟨rfl, rfl, rfl, rfl, rfl, trivial⟩ ?_
    have key := n_sml (G := G) J hK (hR.thr (v := nI 0)) m_thr_at hm4 (m_rn x m) 0 0 (nI 0) (by show _ = nN ((m_thr x (nI 0)).1 8 15 m); rw [m_thr_n (by omega)]; rfl) (by decide)
    rw [show ∀ n k f s, m_sml σ (m_thr x (nI 0)) m n k f s = m_sml σ x m n k f s from m_sml_thr] at key
    exact key
def m_nz : Nat → Nat → bt_X → bt_X
  | 0, _, x => x
  | n + 1, p, x => m_nz n (p + 1) (bt_gs x 8 34 p (1000000 : Int32))
noncomputable def m_can (s t : Nat) (al cap : Int32) : Int32 := if nI t &&& nI s = nI s then (if nI t ||| al = al then (if cap < m_count (nI t) then nI 0 else nI 1) else nI 0) else nI 0
noncomputable def m_n1 (s : Nat) (al cap cost : Int32) (x : bt_X) (t : Nat) : bt_X := bt_gs x 8 34 t (if m_can s t al cap = 0 then x.1 8 34 t else if x.1 8 34 t ≤ cost then x.1 8 34 t else cost)
noncomputable def m_ni (s : Nat) (al cap cost : Int32) : Nat → Nat → bt_X → bt_X
  | 0, _, x => x
  | n + 1, t, x => m_ni s al cap cost n (t + 1) (m_n1 s al cap cost x t)
noncomputable def m_cst (s : Nat) (x : bt_X) (u : Nat) : Int32 := x.1 8 33 u + m_count (nI s &&& (nI u ^^^ (-1 : Int32)))
noncomputable def m_no (s : Nat) (cap : Int32) : Nat → Nat → bt_X → bt_X
  | 0, _, x => x
  | n + 1, u, x => m_no s cap n (u + 1) (if (1000000 : Int32) ≤ x.1 8 33 u then x else m_ni s (nI u ||| nI s) cap (m_cst s x u) (256 - s) s x)
def m_nc : Nat → Nat → bt_X → bt_X
  | 0, _, x => x
  | n + 1, p, x => m_nc n (p + 1) (bt_gs x 8 33 p (x.1 8 34 p))
noncomputable def m_needs (s : Nat) (cap : Int32) (x : bt_X) : bt_X := m_nc m_256 0 (m_no s cap m_256 0 (m_nz m_256 0 x))
theorem m_ni_n {s : Nat} {al cap cost : Int32} {c i k : Nat} (h : ¬ (c = 8 ∧ i = 34)) : ∀ (n t : Nat) (x : bt_X), (m_ni s al cap cost n t x).1 c i k = x.1 c i k := by
  intro n
  induction n with
  | zero => intro t x; rfl
  | succ n ih =>
    intro t x
    unfold m_ni
    rw [ih]
    unfold m_n1
    rw [b_gs_ne (by omega)]
set_option maxRecDepth 100000 in
set_option maxHeartbeats 400000 in
theorem n_nz {G : bp_X} {α : bt_A} {σ : bt_X} (J : m_J α) {Φ : bp_O → bq_O → Prop} {s : Nat} {cap : Int32} : ∀ (n p : Nat) (x : bt_X), n + p = 256 → bq_W G mX6_needs 1 23 [(0, .ref (bt_ad α 6 0)), (1, .int (nI s)), (2, .int cap)] [] (bt α σ (m_nz n p x)) Φ → bq_W G mX6_needs 1 2 [(0, .ref (bt_ad α 6 0)), (1, .int (nI s)), (2, .int cap), (3, .int (nI p))] [] (bt α σ x) Φ := by
  intro n
  induction n with
  | zero =>
    intro p x hp kk
    unfold m_nz at kk
    refine bq_iload_n (i := 3) dX6_needs_2 rfl ?_
    refine bq_sipush (v := (nI 256)) dX6_needs_3 (by decide) ?_
    refine bq_icmp_ge (tgt := 23) dX6_needs_6 (by decide) (fun c_6 => ?_) (fun z9_ => absurd (show nI 256 ≤ nI p from nI_le (by omega) (by omega)) z9_)
    refine bq_lvs (lv' := [(0, .ref (bt_ad α 6 0)), (1, .int (nI s)), (2, .int cap)]) ⟨rfl, rfl, rfl, trivial⟩ ?_
    exact kk
  | succ n ih =>
    intro p x hp kk
    unfold m_nz at kk
    refine bq_iload_n (i := 3) dX6_needs_2 rfl ?_
    refine bq_sipush (v := (nI 256)) dX6_needs_3 (by decide) ?_
    refine bq_icmp_ge (tgt := 23) dX6_needs_6 (by decide) (fun z9_ => absurd z9_ (show ¬ nI 256 ≤ nI p from nI_ge (by omega) (by omega))) (fun c_6 => ?_)
    refine bq_aload_n (i := 0) dX6_needs_9 rfl ?_
    refine bt_get3 (c' := 8) (n := 34) dX6_needs_10 fl_X6_71 (by first | assumption | exact J.v3 | exact J.v4 | exact J.v5 | exact J.v6 | exact J.l0 | exact J.l1 | exact J.l2 | exact J.l3 | exact J.row (by assumption) | exact J.ops (by assumption) | exact J.job (by assumption)) ⟨rfl, rfl, rfl⟩ (by decide) ?_
    refine bq_iload_n (i := 3) dX6_needs_13 rfl ?_
    refine bq_ldc dX6_needs_14 kc_X6_116 ?_
    refine bt_iast0 (n := 34) (j := p) dX6_needs_16 J.a34 rfl (by omega) (by decide) rfl ?_
    refine bq_iinc dX6_needs_17 rfl (by decide) (by first | exact bp_inc _ | rfl) ?_
    refine bq_goto (tgt := 2) dX6_needs_20 (by decide) ?_
    refine bq_lvs (lv' := [(0, .ref (bt_ad α 6 0)), (1, .int (nI s)), (2, .int cap), (3, .int (nI (p + 1)))]) ⟨rfl, rfl, rfl, rfl, trivial⟩ ?_
    exact ih (p + 1) _ (by omega) kk
set_option maxRecDepth 100000 in
set_option maxHeartbeats 400000 in
theorem n_nc {G : bp_X} {α : bt_A} {σ : bt_X} (J : m_J α) {s : Nat} {cap : Int32} : ∀ (n p : Nat) (x : bt_X), n + p = 256 → bq_W G mX6_needs 1 160 [(0, .ref (bt_ad α 6 0)), (1, .int (nI s)), (2, .int cap), (3, .int (nI p))] [] (bt α σ x) (bq_ret none (bt α σ (m_nc n p x))) := by
  intro n
  induction n with
  | zero =>
    intro p x hp
    unfold m_nc
    refine bq_iload_n (i := 3) dX6_needs_160 rfl ?_
    refine bq_sipush (v := (nI 256)) dX6_needs_161 (by decide) ?_
    refine bq_icmp_ge (tgt := 185) dX6_needs_164 (by decide) (fun c_164 => ?_) (fun z9_ => absurd (show nI 256 ≤ nI p from nI_le (by omega) (by omega)) z9_)
    exact bq_vret dX6_needs_185 rfl bq_ret_i
  | succ n ih =>
    intro p x hp
    unfold m_nc
    refine bq_iload_n (i := 3) dX6_needs_160 rfl ?_
    refine bq_sipush (v := (nI 256)) dX6_needs_161 (by decide) ?_
    refine bq_icmp_ge (tgt := 185) dX6_needs_164 (by decide) (fun z9_ => absurd z9_ (show ¬ nI 256 ≤ nI p from nI_ge (by omega) (by omega))) (fun c_164 => ?_)
    refine bq_aload_n (i := 0) dX6_needs_167 rfl ?_
    refine bt_get3 (c' := 8) (n := 33) dX6_needs_168 fl_X6_68 (by first | assumption | exact J.v3 | exact J.v4 | exact J.v5 | exact J.v6 | exact J.l0 | exact J.l1 | exact J.l2 | exact J.l3 | exact J.row (by assumption) | exact J.ops (by assumption) | exact J.job (by assumption)) ⟨rfl, rfl, rfl⟩ (by decide) ?_
    refine bq_iload_n (i := 3) dX6_needs_171 rfl ?_
    refine bq_aload_n (i := 0) dX6_needs_172 rfl ?_
    refine bt_get3 (c' := 8) (n := 34) dX6_needs_173 fl_X6_71 (by first | assumption | exact J.v3 | exact J.v4 | exact J.v5 | exact J.v6 | exact J.l0 | exact J.l1 | exact J.l2 | exact J.l3 | exact J.row (by assumption) | exact J.ops (by assumption) | exact J.job (by assumption)) ⟨rfl, rfl, rfl⟩ (by decide) ?_
    refine bq_iload_n (i := 3) dX6_needs_176 rfl ?_
    refine bt_iald0 (n := 34) (j := p) dX6_needs_177 J.a34 rfl (by omega) (by decide) rfl ?_
    refine bt_iast0 (n := 33) (j := p) dX6_needs_178 J.a33 rfl (by omega) (by decide) rfl ?_
    refine bq_iinc dX6_needs_179 rfl (by decide) (by first | exact bp_inc _ | rfl) ?_
    refine bq_goto (tgt := 160) dX6_needs_182 (by decide) ?_
    refine bq_lvs (lv' := [(0, .ref (bt_ad α 6 0)), (1, .int (nI s)), (2, .int cap), (3, .int (nI (p + 1)))]) ⟨rfl, rfl, rfl, rfl, trivial⟩ ?_
    exact ih (p + 1) _ (by omega)
set_option maxRecDepth 100000 in
set_option maxHeartbeats 400000 in
theorem n_ni {G : bp_X} {α : bt_A} {σ : bt_X} (J : m_J α) {Φ : bp_O → bq_O → Prop} {s u : Nat} (hu : u < 256) {cap al cost : Int32} : ∀ (n t : Nat) (x : bt_X), n + t = 256 → ¬ (1000000 : Int32) ≤ x.1 8 33 u → bq_W G mX6_needs 1 152 [(0, .ref (bt_ad α 6 0)), (1, .int (nI s)), (2, .int cap), (3, .int (nI u))] [] (bt α σ (m_ni s al cap cost n t x)) Φ → bq_W G mX6_needs 1 57 [(0, .ref (bt_ad α 6 0)), (1, .int (nI s)), (2, .int cap), (3, .int (nI u)), (4, .int al), (5, .int cost), (6, .int (nI t))] [] (bt α σ x) Φ := by
  intro n
  induction n with
  | zero =>
    intro t x ht hc kk
    unfold m_ni at kk
    refine bq_iload (i := 6) dX6_needs_57 rfl ?_
    refine bq_sipush (v := (nI 256)) dX6_needs_59 (by decide) ?_
    refine bq_icmp_ge (tgt := 152) dX6_needs_62 (by decide) (fun c_62 => ?_) (fun z9_ => absurd (show nI 256 ≤ nI t from nI_le (by omega) (by omega)) z9_)
    refine bq_lvs (lv' := [(0, .ref (bt_ad α 6 0)), (1, .int (nI s)), (2, .int cap), (3, .int (nI u))]) ⟨rfl, rfl, rfl, rfl, trivial⟩ ?_
    exact kk
  | succ n ih =>
    intro t x ht hc kk
    unfold m_ni at kk
    have kk2 := ih (t + 1) (m_n1 s al cap cost x t) (by omega) (by unfold m_n1; rw [b_gs_ne (by omega)]; exact hc) kk
    unfold m_n1 at kk2
    clear kk ih
    have fin : bq_W G mX6_needs 1 108 [(0, .ref (bt_ad α 6 0)), (1, .int (nI s)), (2, .int cap), (3, .int (nI u)), (4, .int al), (5, .int cost), (6, .int (nI t))] [.int (m_can s t al cap)] (bt α σ x) Φ := by
      refine bq_istore (i := 7) dX6_needs_108 (by decide) ?_
      refine bq_aload_n (i := 0) dX6_needs_110 rfl ?_
      refine bt_get3 (c' := 8) (n := 34) dX6_needs_111 fl_X6_71 (by first | assumption | exact J.v3 | exact J.v4 | exact J.v5 | exact J.v6 | exact J.l0 | exact J.l1 | exact J.l2 | exact J.l3 | exact J.row (by assumption) | exact J.ops (by assumption) | exact J.job (by assumption)) ⟨rfl, rfl, rfl⟩ (by decide) ?_
      refine bq_iload (i := 6) dX6_needs_114 rfl ?_
      refine bq_iload (i := 7) dX6_needs_116 rfl ?_
      refine bq_if_eq (tgt := 138) dX6_needs_118 (by decide) (fun c_118 => ?_) (fun c_118 => ?_)
      · rw [if_pos c_118] at kk2
        refine bq_aload_n (i := 0) dX6_needs_138 rfl ?_
        refine bt_get3 (c' := 8) (n := 34) dX6_needs_139 fl_X6_71 (by first | assumption | exact J.v3 | exact J.v4 | exact J.v5 | exact J.v6 | exact J.l0 | exact J.l1 | exact J.l2 | exact J.l3 | exact J.row (by assumption) | exact J.ops (by assumption) | exact J.job (by assumption)) ⟨rfl, rfl, rfl⟩ (by decide) ?_
        refine bq_iload (i := 6) dX6_needs_142 rfl ?_
        refine bt_iald0 (n := 34) (j := t) dX6_needs_144 J.a34 rfl (by omega) (by decide) rfl ?_
        refine bt_iast0 (n := 34) (j := t) dX6_needs_145 J.a34 rfl (by omega) (by decide) rfl ?_
        refine bq_iinc dX6_needs_146 rfl (by decide) (by first | exact bp_inc _ | rfl) ?_
        refine bq_goto (tgt := 57) dX6_needs_149 (by decide) ?_
        refine bq_lvs (lv' := [(0, .ref (bt_ad α 6 0)), (1, .int (nI s)), (2, .int cap), (3, .int (nI u)), (4, .int al), (5, .int cost), (6, .int (nI (t + 1)))]) ⟨rfl, rfl, rfl, rfl, rfl, rfl, rfl, trivial⟩ ?_
        exact kk2
      · rw [if_neg c_118] at kk2
        refine bq_iload (i := 5) dX6_needs_121 rfl ?_
        refine bq_aload_n (i := 0) dX6_needs_123 rfl ?_
        refine bt_get3 (c' := 8) (n := 34) dX6_needs_124 fl_X6_71 (by first | assumption | exact J.v3 | exact J.v4 | exact J.v5 | exact J.v6 | exact J.l0 | exact J.l1 | exact J.l2 | exact J.l3 | exact J.row (by assumption) | exact J.ops (by assumption) | exact J.job (by assumption)) ⟨rfl, rfl, rfl⟩ (by decide) ?_
        refine bq_iload (i := 6) dX6_needs_127 rfl ?_
        refine bt_iald0 (n := 34) (j := t) dX6_needs_129 J.a34 rfl (by omega) (by decide) rfl ?_
        refine bq_icmp_ge (tgt := 138) dX6_needs_130 (by decide) (fun c_130 => ?_) (fun c_130 => ?_)
        · rw [if_pos c_130] at kk2
          refine bq_aload_n (i := 0) dX6_needs_138 rfl ?_
          refine bt_get3 (c' := 8) (n := 34) dX6_needs_139 fl_X6_71 (by first | assumption | exact J.v3 | exact J.v4 | exact J.v5 | exact J.v6 | exact J.l0 | exact J.l1 | exact J.l2 | exact J.l3 | exact J.row (by assumption) | exact J.ops (by assumption) | exact J.job (by assumption)) ⟨rfl, rfl, rfl⟩ (by decide) ?_
          refine bq_iload (i := 6) dX6_needs_142 rfl ?_
          refine bt_iald0 (n := 34) (j := t) dX6_needs_144 J.a34 rfl (by omega) (by decide) rfl ?_
          refine bt_iast0 (n := 34) (j := t) dX6_needs_145 J.a34 rfl (by omega) (by decide) rfl ?_
          refine bq_iinc dX6_needs_146 rfl (by decide) (by first | exact bp_inc _ | rfl) ?_
          refine bq_goto (tgt := 57) dX6_needs_149 (by decide) ?_
          refine bq_lvs (lv' := [(0, .ref (bt_ad α 6 0)), (1, .int (nI s)), (2, .int cap), (3, .int (nI u)), (4, .int al), (5, .int cost), (6, .int (nI (t + 1)))]) ⟨rfl, rfl, rfl, rfl, rfl, rfl, rfl, trivial⟩ ?_
          exact kk2
        · rw [if_neg c_130] at kk2
          refine bq_iload (i := 5) dX6_needs_133 rfl ?_
          refine bq_goto (tgt := 145) dX6_needs_135 (by decide) ?_
          refine bt_iast0 (n := 34) (j := t) dX6_needs_145 J.a34 rfl (by omega) (by decide) rfl ?_
          refine bq_iinc dX6_needs_146 rfl (by decide) (by first | exact bp_inc _ | rfl) ?_
          refine bq_goto (tgt := 57) dX6_needs_149 (by decide) ?_
          refine bq_lvs (lv' := [(0, .ref (bt_ad α 6 0)), (1, .int (nI s)), (2, .int cap), (3, .int (nI u)), (4, .int al), (5, .int cost), (6, .int (nI (t + 1)))]) ⟨rfl, rfl, rfl, rfl, rfl, rfl, rfl, trivial⟩ ?_
          exact kk2
    unfold m_can at fin
    clear kk2
    refine bq_iload (i := 6) dX6_needs_57 rfl ?_
    refine bq_sipush (v := (nI 256)) dX6_needs_59 (by decide) ?_
    refine bq_icmp_ge (tgt := 152) dX6_needs_62 (by decide) (fun z9_ => absurd z9_ (show ¬ nI 256 ≤ nI t from nI_ge (by omega) (by omega))) (fun c_62 => ?_)
    refine bq_aload_n (i := 0) dX6_needs_65 rfl ?_
    refine bt_get3 (c' := 8) (n := 33) dX6_needs_66 fl_X6_68 (by first | assumption | exact J.v3 | exact J.v4 | exact J.v5 | exact J.v6 | exact J.l0 | exact J.l1 | exact J.l2 | exact J.l3 | exact J.row (by assumption) | exact J.ops (by assumption) | exact J.job (by assumption)) ⟨rfl, rfl, rfl⟩ (by decide) ?_
    refine bq_iload_n (i := 3) dX6_needs_69 rfl ?_
    refine bt_iald0 (n := 33) (j := u) dX6_needs_70 J.a33 rfl (by omega) (by decide) rfl ?_
    refine bq_ldc dX6_needs_71 kc_X6_116 ?_
    refine bq_icmp_ge (tgt := 152) dX6_needs_73 (by decide) (fun z9_ => absurd z9_ hc) (fun c_73 => ?_)
    refine bq_iload (i := 6) dX6_needs_76 rfl ?_
    refine bq_iload_n (i := 1) dX6_needs_78 rfl ?_
    refine bq_iand dX6_needs_79 ?_
    refine bq_iload_n (i := 1) dX6_needs_80 rfl ?_
    refine bq_icmp_ne (tgt := 107) dX6_needs_81 (by decide) (fun c_81 => ?_) (fun c_81 => ?_)
    · rw [if_neg c_81] at fin
      refine bq_iconst (v := (nI 0)) dX6_needs_107 (by decide) ?_
      refine bq_lvs (lv' := [(0, .ref (bt_ad α 6 0)), (1, .int (nI s)), (2, .int cap), (3, .int (nI u)), (4, .int al), (5, .int cost), (6, .int (nI t))]) ⟨rfl, rfl, rfl, rfl, rfl, rfl, rfl, trivial⟩ ?_
      exact fin
    · rw [if_pos c_81] at fin
      refine bq_iload (i := 6) dX6_needs_84 rfl ?_
      refine bq_iload (i := 4) dX6_needs_86 rfl ?_
      refine bq_ior dX6_needs_88 ?_
      refine bq_iload (i := 4) dX6_needs_89 rfl ?_
      refine bq_icmp_ne (tgt := 107) dX6_needs_91 (by decide) (fun c_91 => ?_) (fun c_91 => ?_)
      · rw [if_neg c_91] at fin
        refine bq_iconst (v := (nI 0)) dX6_needs_107 (by decide) ?_
        refine bq_lvs (lv' := [(0, .ref (bt_ad α 6 0)), (1, .int (nI s)), (2, .int cap), (3, .int (nI u)), (4, .int al), (5, .int cost), (6, .int (nI t))]) ⟨rfl, rfl, rfl, rfl, rfl, rfl, rfl, trivial⟩ ?_
        exact fin
      · rw [if_pos c_91] at fin
        refine bq_iload (i := 6) dX6_needs_94 rfl ?_
        refine bq_callSr dX6_needs_96 ml_X6_124 (n_count) (by decide) (by decide) (Nat.le_of_ble_eq_true rfl) rfl ?_
        refine bq_iload_n (i := 2) dX6_needs_99 rfl ?_
        refine bq_icmp_gt (tgt := 107) dX6_needs_100 (by decide) (fun c_100 => ?_) (fun c_100 => ?_)
        · rw [if_pos c_100] at fin
          refine bq_iconst (v := (nI 0)) dX6_needs_107 (by decide) ?_
          refine bq_lvs (lv' := [(0, .ref (bt_ad α 6 0)), (1, .int (nI s)), (2, .int cap), (3, .int (nI u)), (4, .int al), (5, .int cost), (6, .int (nI t))]) ⟨rfl, rfl, rfl, rfl, rfl, rfl, rfl, trivial⟩ ?_
          exact fin
        · rw [if_neg c_100] at fin
          refine bq_iconst (v := (nI 1)) dX6_needs_103 (by decide) ?_
          refine bq_goto (tgt := 108) dX6_needs_104 (by decide) ?_
          refine bq_lvs (lv' := [(0, .ref (bt_ad α 6 0)), (1, .int (nI s)), (2, .int cap), (3, .int (nI u)), (4, .int al), (5, .int cost), (6, .int (nI t))]) ⟨rfl, rfl, rfl, rfl, rfl, rfl, rfl, trivial⟩ ?_
          exact fin
set_option maxRecDepth 100000 in
set_option maxHeartbeats 400000 in
theorem n_no {G : bp_X} {α : bt_A} {σ : bt_X} (J : m_J α) {Φ : bp_O → bq_O → Prop} {s : Nat} (hs : s < 256) {cap : Int32} : ∀ (n u : Nat) (x : bt_X), n + u = 256 → bq_W G mX6_needs 1 158 [(0, .ref (bt_ad α 6 0)), (1, .int (nI s)), (2, .int cap)] [] (bt α σ (m_no s cap n u x)) Φ → bq_W G mX6_needs 1 25 [(0, .ref (bt_ad α 6 0)), (1, .int (nI s)), (2, .int cap), (3, .int (nI u))] [] (bt α σ x) Φ := by
  intro n
  induction n with
  | zero =>
    intro u x hu kk
    unfold m_no at kk
    refine bq_iload_n (i := 3) dX6_needs_25 rfl ?_
    refine bq_sipush (v := (nI 256)) dX6_needs_26 (by decide) ?_
    refine bq_icmp_ge (tgt := 158) dX6_needs_29 (by decide) (fun c_29 => ?_) (fun z9_ => absurd (show nI 256 ≤ nI u from nI_le (by omega) (by omega)) z9_)
    refine bq_lvs (lv' := [(0, .ref (bt_ad α 6 0)), (1, .int (nI s)), (2, .int cap)]) ⟨rfl, rfl, rfl, trivial⟩ ?_
    exact kk
  | succ n ih =>
    intro u x hu kk
    unfold m_no at kk
    by_cases hc : (1000000 : Int32) ≤ x.1 8 33 u
    · rw [if_pos hc] at kk
      refine bq_iload_n (i := 3) dX6_needs_25 rfl ?_
      refine bq_sipush (v := (nI 256)) dX6_needs_26 (by decide) ?_
      refine bq_icmp_ge (tgt := 158) dX6_needs_29 (by decide) (fun z9_ => absurd z9_ (show ¬ nI 256 ≤ nI u from nI_ge (by omega) (by omega))) (fun c_29 => ?_)
      refine bq_iload_n (i := 3) dX6_needs_32 rfl ?_
      refine bq_iload_n (i := 1) dX6_needs_33 rfl ?_
      refine bq_ior dX6_needs_34 ?_
      refine bq_istore (i := 4) dX6_needs_35 (by decide) ?_
      refine bq_aload_n (i := 0) dX6_needs_37 rfl ?_
      refine bt_get3 (c' := 8) (n := 33) dX6_needs_38 fl_X6_68 (by first | assumption | exact J.v3 | exact J.v4 | exact J.v5 | exact J.v6 | exact J.l0 | exact J.l1 | exact J.l2 | exact J.l3 | exact J.row (by assumption) | exact J.ops (by assumption) | exact J.job (by assumption)) ⟨rfl, rfl, rfl⟩ (by decide) ?_
      refine bq_iload_n (i := 3) dX6_needs_41 rfl ?_
      refine bt_iald0 (n := 33) (j := u) dX6_needs_42 J.a33 rfl (by omega) (by decide) rfl ?_
      refine bq_iload_n (i := 1) dX6_needs_43 rfl ?_
      refine bq_iload_n (i := 3) dX6_needs_44 rfl ?_
      refine bq_iconst (v := (-1 : Int32)) dX6_needs_45 (by decide) ?_
      refine bq_ixor dX6_needs_46 ?_
      refine bq_iand dX6_needs_47 ?_
      refine bq_callSr dX6_needs_48 ml_X6_124 (n_count) (by decide) (by decide) (Nat.le_of_ble_eq_true rfl) rfl ?_
      refine bq_iadd dX6_needs_51 ?_
      refine bq_istore (i := 5) dX6_needs_52 (by decide) ?_
      refine bq_iload_n (i := 1) dX6_needs_54 rfl ?_
      refine bq_istore (i := 6) dX6_needs_55 (by decide) ?_
      refine bq_iload (i := 6) dX6_needs_57 rfl ?_
      refine bq_sipush (v := (nI 256)) dX6_needs_59 (by decide) ?_
      refine bq_icmp_ge (tgt := 152) dX6_needs_62 (by decide) (fun z9_ => absurd z9_ (show ¬ nI 256 ≤ nI s from nI_ge (by omega) (by omega))) (fun c_62 => ?_)
      refine bq_aload_n (i := 0) dX6_needs_65 rfl ?_
      refine bt_get3 (c' := 8) (n := 33) dX6_needs_66 fl_X6_68 (by first | assumption | exact J.v3 | exact J.v4 | exact J.v5 | exact J.v6 | exact J.l0 | exact J.l1 | exact J.l2 | exact J.l3 | exact J.row (by assumption) | exact J.ops (by assumption) | exact J.job (by assumption)) ⟨rfl, rfl, rfl⟩ (by decide) ?_
      refine bq_iload_n (i := 3) dX6_needs_69 rfl ?_
      refine bt_iald0 (n := 33) (j := u) dX6_needs_70 J.a33 rfl (by omega) (by decide) rfl ?_
      refine bq_ldc dX6_needs_71 kc_X6_116 ?_
      refine bq_icmp_ge (tgt := 152) dX6_needs_73 (by decide) (fun c_73 => ?_) (fun z9_ => absurd hc z9_)
      refine bq_iinc dX6_needs_152 rfl (by decide) (bp_inc _) ?_
      refine bq_goto (tgt := 25) dX6_needs_155 (by decide) ?_
      refine bq_lvs (lv' := [(0, .ref (bt_ad α 6 0)), (1, .int (nI s)), (2, .int cap), (3, .int (nI (u + 1)))]) ⟨rfl, rfl, rfl, rfl, trivial⟩ ?_
      exact ih (u + 1) _ (by omega) kk
    · rw [if_neg hc] at kk
      refine bq_iload_n (i := 3) dX6_needs_25 rfl ?_
      refine bq_sipush (v := (nI 256)) dX6_needs_26 (by decide) ?_
      refine bq_icmp_ge (tgt := 158) dX6_needs_29 (by decide) (fun z9_ => absurd z9_ (show ¬ nI 256 ≤ nI u from nI_ge (by omega) (by omega))) (fun c_29 => ?_)
      refine bq_iload_n (i := 3) dX6_needs_32 rfl ?_
      refine bq_iload_n (i := 1) dX6_needs_33 rfl ?_
      refine bq_ior dX6_needs_34 ?_
      refine bq_istore (i := 4) dX6_needs_35 (by decide) ?_
      refine bq_aload_n (i := 0) dX6_needs_37 rfl ?_
      refine bt_get3 (c' := 8) (n := 33) dX6_needs_38 fl_X6_68 (by first | assumption | exact J.v3 | exact J.v4 | exact J.v5 | exact J.v6 | exact J.l0 | exact J.l1 | exact J.l2 | exact J.l3 | exact J.row (by assumption) | exact J.ops (by assumption) | exact J.job (by assumption)) ⟨rfl, rfl, rfl⟩ (by decide) ?_
      refine bq_iload_n (i := 3) dX6_needs_41 rfl ?_
      refine bt_iald0 (n := 33) (j := u) dX6_needs_42 J.a33 rfl (by omega) (by decide) rfl ?_
      refine bq_iload_n (i := 1) dX6_needs_43 rfl ?_
      refine bq_iload_n (i := 3) dX6_needs_44 rfl ?_
      refine bq_iconst (v := (-1 : Int32)) dX6_needs_45 (by decide) ?_
      refine bq_ixor dX6_needs_46 ?_
      refine bq_iand dX6_needs_47 ?_
      refine bq_callSr dX6_needs_48 ml_X6_124 (n_count) (by decide) (by decide) (Nat.le_of_ble_eq_true rfl) rfl ?_
      refine bq_iadd dX6_needs_51 ?_
      refine bq_istore (i := 5) dX6_needs_52 (by decide) ?_
      refine bq_iload_n (i := 1) dX6_needs_54 rfl ?_
      refine bq_istore (i := 6) dX6_needs_55 (by decide) ?_
      refine bq_lvs (lv' := [(0, .ref (bt_ad α 6 0)), (1, .int (nI s)), (2, .int cap), (3, .int (nI u)), (4, .int (nI u ||| nI s)), (5, .int (m_cst s x u)), (6, .int (nI s))]) ⟨rfl, rfl, rfl, rfl, rfl, rfl, rfl, trivial⟩ ?_
      refine n_ni J (by omega) (256 - s) s x (by omega) hc ?_
      refine bq_iinc dX6_needs_152 rfl (by decide) (bp_inc _) ?_
      refine bq_goto (tgt := 25) dX6_needs_155 (by decide) ?_
      refine bq_lvs (lv' := [(0, .ref (bt_ad α 6 0)), (1, .int (nI s)), (2, .int cap), (3, .int (nI (u + 1)))]) ⟨rfl, rfl, rfl, rfl, trivial⟩ ?_
      exact ih (u + 1) _ (by omega) kk
set_option maxRecDepth 100000 in
set_option maxHeartbeats 400000 in
theorem n_needs {G : bp_X} {α : bt_A} {σ x : bt_X} {s : Nat} {cap : Int32} (J : m_J α) (hs : s < 256) : bq_S G mX6_needs 1 [.ref (bt_ad α 6 0), .int (nI s), .int cap] (bt α σ x) (bq_ret none (bt α σ (m_needs s cap x))) := by
  refine bq_ofW (by decide +kernel) rfl (Nat.le_of_ble_eq_true rfl) ?_
  refine bq_iconst (v := (nI 0)) dX6_needs_0 (by decide) ?_
  refine bq_istore_n (i := 3) dX6_needs_1 (by decide) ?_
  refine bq_lvs (lv' := [(0, .ref (bt_ad α 6 0)), (1, .int (nI s)), (2, .int cap), (3, .int (nI 0))]) ⟨rfl, rfl, rfl, rfl, trivial⟩ ?_
  refine n_nz J m_256 0 x m_256_e ?_
  refine bq_iconst (v := nI 0) dX6_needs_23 (by decide) ?_
  refine bq_istore_n (i := 3) dX6_needs_24 (by decide) ?_
  refine bq_lvs (lv' := [(0, .ref (bt_ad α 6 0)), (1, .int (nI s)), (2, .int cap), (3, .int (nI 0))]) ⟨rfl, rfl, rfl, rfl, trivial⟩ ?_
  refine n_no J hs m_256 0 _ m_256_e ?_
  refine bq_iconst (v := nI 0) dX6_needs_158 (by decide) ?_
  refine bq_istore_n (i := 3) dX6_needs_159 (by decide) ?_
  refine bq_lvs (lv' := [(0, .ref (bt_ad α 6 0)), (1, .int (nI s)), (2, .int cap), (3, .int (nI 0))]) ⟨rfl, rfl, rfl, rfl, trivial⟩ ?_
  exact n_nc J m_256 0 _ m_256_e
theorem m_nz_n {c i k : Nat} (h : ¬ (c = 8 ∧ i = 34)) : ∀ (n p : Nat) (x : bt_X), (m_nz n p x).1 c i k = x.1 c i k := by
  intro n
  induction n with
  | zero => intro p x; rfl
  | succ n ih =>
    intro p x
    unfold m_nz
    rw [ih, b_gs_ne (by omega)]
theorem m_nc_n {c i k : Nat} (h : ¬ (c = 8 ∧ i = 33)) : ∀ (n p : Nat) (x : bt_X), (m_nc n p x).1 c i k = x.1 c i k := by
  intro n
  induction n with
  | zero => intro p x; rfl
  | succ n ih =>
    intro p x
    unfold m_nc
    rw [ih, b_gs_ne (by omega)]
theorem m_no_n {s : Nat} {cap : Int32} {c i k : Nat} (h : ¬ (c = 8 ∧ i = 34)) : ∀ (n p : Nat) (x : bt_X), (m_no s cap n p x).1 c i k = x.1 c i k := by
  intro n
  induction n with
  | zero => intro p x; rfl
  | succ n ih =>
    intro p x
    unfold m_no
    rw [ih]
    split
    · rfl
    · rw [m_ni_n h]
theorem m_needs_n {s : Nat} {cap : Int32} {x : bt_X} {c i k : Nat} (h : ¬ (c = 8 ∧ (i = 33 ∨ i = 34))) : (m_needs s cap x).1 c i k = x.1 c i k := by
  unfold m_needs
  rw [m_nc_n (by omega), m_no_n (by omega), m_nz_n (by omega)]
def m_lz : Nat → Nat → bt_X → bt_X
  | 0, _, x => x
  | n + 1, p, x => m_lz n (p + 1) (bt_gs x 8 33 p (if nI p = 0 then nI 0 else (1000000 : Int32)))
/-- tools are sets -/
def m_T (σ : bt_X) : Prop := ∀ p : Nat, p < 32 → m_w 256 (σ.1 8 24 p)
def m_tl (σ : bt_X) (p : Nat) : Nat := nN (σ.1 8 24 p)
noncomputable def m_lr (σ : bt_X) (m : Nat) : Nat → Nat → bt_X → bt_X
  | 0, _, x => x
  | n + 1, k, x => m_lr σ m n (k + 1) (m_needs (m_tl σ (m_ro x m k)) (σ.1 8 12 m) x)
def m_lm (x : bt_X) : Nat → Nat → Int32 → Int32
  | 0, _, l => l
  | n + 1, p, l => m_lm x n (p + 1) (if l ≤ x.1 8 33 p then l else x.1 8 33 p)
noncomputable def m_lds (σ x : bt_X) (m : Nat) : bt_X := m_lr σ m (m_rn x m) 0 (m_lz m_256 0 (m_thr x (nI 0)))
noncomputable def m_loads (σ x : bt_X) (a : Int32) : Int32 × bt_X := match b_ix (m_nm σ) a with
  | none => (nI 0, m_thr x (nI 1))
  | some m => (m_lm (m_lds σ x m) m_256 0 (1000000 : Int32), m_lds σ x m)
theorem m_lz_n {c i k : Nat} (h : ¬ (c = 8 ∧ i = 33)) : ∀ (n p : Nat) (x : bt_X), (m_lz n p x).1 c i k = x.1 c i k := by
  intro n
  induction n with
  | zero => intro p x; rfl
  | succ n ih =>
    intro p x
    unfold m_lz
    rw [ih, b_gs_ne (by omega)]
theorem m_lr_n {σ : bt_X} {m c i k : Nat} (h : ¬ (c = 8 ∧ (i = 33 ∨ i = 34))) : ∀ (n p : Nat) (x : bt_X), (m_lr σ m n p x).1 c i k = x.1 c i k := by
  intro n
  induction n with
  | zero => intro p x; rfl
  | succ n ih =>
    intro p x
    unfold m_lr
    rw [ih, m_needs_n h]
theorem m_lds_n {σ x : bt_X} {m c i k : Nat} (h : ¬ (c = 8 ∧ (i = 33 ∨ i = 34)) ∧ ¬ (c = 6 ∧ k = 0)) : (m_lds σ x m).1 c i k = x.1 c i k := by
  unfold m_lds
  rw [m_lr_n (by omega), m_lz_n (by omega), m_thr_n (by omega)]
set_option maxRecDepth 100000 in
set_option maxHeartbeats 400000 in
theorem n_lz {G : bp_X} {α : bt_A} {σ : bt_X} (J : m_J α) {m : Nat} {Φ : bp_O → bq_O → Prop} : ∀ (n p : Nat) (x : bt_X), n + p = 256 → bq_W G mX6_loads 2 57 [(0, .ref (bt_ad α 6 0)), (1, .int (nI m))] [] (bt α σ (m_lz n p x)) Φ → bq_W G mX6_loads 2 28 [(0, .ref (bt_ad α 6 0)), (1, .int (nI m)), (2, .int (nI p))] [] (bt α σ x) Φ := by
  intro n
  induction n with
  | zero =>
    intro p x hp kk
    unfold m_lz at kk
    refine bq_iload_n (i := 2) dX6_loads_28 rfl ?_
    refine bq_sipush (v := (nI 256)) dX6_loads_29 (by decide) ?_
    refine bq_icmp_ge (tgt := 57) dX6_loads_32 (by decide) (fun c_32 => ?_) (fun z9_ => absurd (show nI 256 ≤ nI p from nI_le (by omega) (by omega)) z9_)
    refine bq_lvs (lv' := [(0, .ref (bt_ad α 6 0)), (1, .int (nI m))]) ⟨rfl, rfl, trivial⟩ ?_
    exact kk
  | succ n ih =>
    intro p x hp kk
    unfold m_lz at kk
    refine bq_iload_n (i := 2) dX6_loads_28 rfl ?_
    refine bq_sipush (v := (nI 256)) dX6_loads_29 (by decide) ?_
    refine bq_icmp_ge (tgt := 57) dX6_loads_32 (by decide) (fun z9_ => absurd z9_ (show ¬ nI 256 ≤ nI p from nI_ge (by omega) (by omega))) (fun c_32 => ?_)
    refine bq_aload_n (i := 0) dX6_loads_35 rfl ?_
    refine bt_get3 (c' := 8) (n := 33) dX6_loads_36 fl_X6_68 (by first | assumption | exact J.v3 | exact J.v4 | exact J.v5 | exact J.v6 | exact J.l0 | exact J.l1 | exact J.l2 | exact J.l3 | exact J.row (by assumption) | exact J.ops (by assumption) | exact J.job (by assumption)) ⟨rfl, rfl, rfl⟩ (by decide) ?_
    refine bq_iload_n (i := 2) dX6_loads_39 rfl ?_
    refine bq_iload_n (i := 2) dX6_loads_40 rfl ?_
    refine bq_if_ne (tgt := 48) dX6_loads_41 (by decide) (fun c_41 => ?_) (fun c_41 => ?_)
    · rw [if_neg c_41] at kk
      refine bq_ldc dX6_loads_48 kc_X6_116 ?_
      refine bt_iast0 (n := 33) (j := p) dX6_loads_50 J.a33 rfl (by omega) (by decide) rfl ?_
      refine bq_iinc dX6_loads_51 rfl (by decide) (by first | exact bp_inc _ | rfl) ?_
      refine bq_goto (tgt := 28) dX6_loads_54 (by decide) ?_
      refine bq_lvs (lv' := [(0, .ref (bt_ad α 6 0)), (1, .int (nI m)), (2, .int (nI (p + 1)))]) ⟨rfl, rfl, rfl, trivial⟩ ?_
      exact ih (p + 1) _ (by omega) kk
    · rw [if_pos c_41] at kk
      refine bq_iconst (v := (nI 0)) dX6_loads_44 (by decide) ?_
      refine bq_goto (tgt := 50) dX6_loads_45 (by decide) ?_
      refine bt_iast0 (n := 33) (j := p) dX6_loads_50 J.a33 rfl (by omega) (by decide) rfl ?_
      refine bq_iinc dX6_loads_51 rfl (by decide) (by first | exact bp_inc _ | rfl) ?_
      refine bq_goto (tgt := 28) dX6_loads_54 (by decide) ?_
      refine bq_lvs (lv' := [(0, .ref (bt_ad α 6 0)), (1, .int (nI m)), (2, .int (nI (p + 1)))]) ⟨rfl, rfl, rfl, trivial⟩ ?_
      exact ih (p + 1) _ (by omega) kk
set_option maxRecDepth 100000 in
set_option maxHeartbeats 400000 in
theorem n_lr {G : bp_X} {α : bt_A} {σ : bt_X} (J : m_J α) (hT : m_T σ) {m r : Nat} (hm : m < 4) {Φ : bp_O → bq_O → Prop} : ∀ (n k : Nat) (x : bt_X), n + k = r → r = m_rn x m → m_Rw x → bq_W G mX6_loads 2 101 [(0, .ref (bt_ad α 6 0)), (1, .int (nI m))] [] (bt α σ (m_lr σ m n k x)) Φ → bq_W G mX6_loads 2 59 [(0, .ref (bt_ad α 6 0)), (1, .int (nI m)), (2, .int (nI k))] [] (bt α σ x) Φ := by
  intro n
  induction n with
  | zero =>
    intro k x hk hr hR kk
    obtain ⟨r1, r2⟩ := m_rn_e hR hm
    rw [← hr] at r1 r2
    unfold m_lr at kk
    refine bq_iload_n (i := 2) dX6_loads_59 rfl ?_
    refine bq_aload_n (i := 0) dX6_loads_60 rfl ?_
    refine bt_get3 (c' := 8) (n := 15) dX6_loads_61 fl_X6_19 (by first | assumption | exact J.v3 | exact J.v4 | exact J.v5 | exact J.v6 | exact J.l0 | exact J.l1 | exact J.l2 | exact J.l3 | exact J.row (by assumption) | exact J.ops (by assumption) | exact J.job (by assumption)) ⟨rfl, rfl, rfl⟩ (by decide) ?_
    refine bq_iload_n (i := 1) dX6_loads_64 rfl ?_
    refine bt_iald0 (n := 15) (j := m) dX6_loads_65 J.a15 rfl (by omega) (by decide) rfl ?_
    rw [r1]
    refine bq_icmp_ge (tgt := 101) dX6_loads_66 (by decide) (fun c_66 => ?_) (fun z9_ => absurd (show nI r ≤ nI k from nI_le (by omega) (by omega)) z9_)
    refine bq_lvs (lv' := [(0, .ref (bt_ad α 6 0)), (1, .int (nI m))]) ⟨rfl, rfl, trivial⟩ ?_
    exact kk
  | succ n ih =>
    intro k x hk hr hR kk
    obtain ⟨r1, r2⟩ := m_rn_e hR hm
    obtain ⟨q1, q2⟩ := m_ro_e hR hm (show k < m_rn x m by omega)
    rw [← hr] at r1 r2
    have t1 : σ.1 8 24 (m_ro x m k) = nI (m_tl σ (m_ro x m k)) := (hT _ q2).e
    have t2 : m_tl σ (m_ro x m k) < 256 := (hT _ q2).l
    unfold m_lr at kk
    refine bq_iload_n (i := 2) dX6_loads_59 rfl ?_
    refine bq_aload_n (i := 0) dX6_loads_60 rfl ?_
    refine bt_get3 (c' := 8) (n := 15) dX6_loads_61 fl_X6_19 (by first | assumption | exact J.v3 | exact J.v4 | exact J.v5 | exact J.v6 | exact J.l0 | exact J.l1 | exact J.l2 | exact J.l3 | exact J.row (by assumption) | exact J.ops (by assumption) | exact J.job (by assumption)) ⟨rfl, rfl, rfl⟩ (by decide) ?_
    refine bq_iload_n (i := 1) dX6_loads_64 rfl ?_
    refine bt_iald0 (n := 15) (j := m) dX6_loads_65 J.a15 rfl (by omega) (by decide) rfl ?_
    rw [r1]
    refine bq_icmp_ge (tgt := 101) dX6_loads_66 (by decide) (fun z9_ => absurd z9_ (show ¬ nI r ≤ nI k from nI_ge (by omega) (by omega))) (fun c_66 => ?_)
    refine bq_aload_n (i := 0) dX6_loads_69 rfl ?_
    refine bq_aload_n (i := 0) dX6_loads_70 rfl ?_
    refine bt_get3 (c' := 8) (n := 24) dX6_loads_71 fl_X6_44 (by first | assumption | exact J.v3 | exact J.v4 | exact J.v5 | exact J.v6 | exact J.l0 | exact J.l1 | exact J.l2 | exact J.l3 | exact J.row (by assumption) | exact J.ops (by assumption) | exact J.job (by assumption)) ⟨rfl, rfl, rfl⟩ (by decide) ?_
    refine bq_aload_n (i := 0) dX6_loads_74 rfl ?_
    refine bt_get3 (c' := 8) (n := 16) dX6_loads_75 fl_X6_22 (by first | assumption | exact J.v3 | exact J.v4 | exact J.v5 | exact J.v6 | exact J.l0 | exact J.l1 | exact J.l2 | exact J.l3 | exact J.row (by assumption) | exact J.ops (by assumption) | exact J.job (by assumption)) ⟨rfl, rfl, rfl⟩ (by decide) ?_
    refine bq_bipush (v := (nI 32)) dX6_loads_78 (by decide) ?_
    refine bq_iload_n (i := 1) dX6_loads_80 rfl ?_
    refine bq_imul dX6_loads_81 ?_
    refine bq_iload_n (i := 2) dX6_loads_82 rfl ?_
    refine bq_iadd dX6_loads_83 ?_
    refine bt_iald0 (n := 16) (j := (32 * m + k)) dX6_loads_84 J.a16 (by rw [pk_mul, nI_add]) (by omega) (by decide) rfl ?_
    rw [q1]
    refine bt_iald4 (n := 24) (j := (m_ro x m k)) dX6_loads_85 J.a24 rfl (by omega) (by decide) rfl ?_
    rw [t1]
    refine bq_aload_n (i := 0) dX6_loads_86 rfl ?_
    refine bt_get3 (c' := 8) (n := 12) dX6_loads_87 fl_X6_7 (by first | assumption | exact J.v3 | exact J.v4 | exact J.v5 | exact J.v6 | exact J.l0 | exact J.l1 | exact J.l2 | exact J.l3 | exact J.row (by assumption) | exact J.ops (by assumption) | exact J.job (by assumption)) ⟨rfl, rfl, rfl⟩ (by decide) ?_
    refine bq_iload_n (i := 1) dX6_loads_90 rfl ?_
    refine bt_iald4 (n := 12) (j := m) dX6_loads_91 J.a12 rfl (by omega) (by decide) rfl ?_
    refine bt_callVr (c := 6) (i := 0) dX6_loads_92 rfl ml_X6_172 (by first | assumption | exact J.v3 | exact J.v4 | exact J.v5 | exact J.v6 | exact J.l0 | exact J.l1 | exact J.l2 | exact J.l3 | exact J.row (by assumption) | exact J.ops (by assumption) | exact J.job (by assumption)) (by decide) (n_needs J t2) (by decide) (by decide) (Nat.le_of_ble_eq_true rfl) rfl ?_
    refine bq_iinc dX6_loads_95 rfl (by decide) (by first | exact bp_inc _ | rfl) ?_
    refine bq_goto (tgt := 59) dX6_loads_98 (by decide) ?_
    refine bq_lvs (lv' := [(0, .ref (bt_ad α 6 0)), (1, .int (nI m)), (2, .int (nI (k + 1)))]) ⟨rfl, rfl, rfl, trivial⟩ ?_
    exact ih (k + 1) _ (by omega) (hr.trans (by unfold m_rn; rw [m_needs_n (by omega)])) (hR.ext (fun i k hi => m_needs_n (by omega))) kk
set_option maxRecDepth 100000 in
set_option maxHeartbeats 400000 in
theorem n_lm {G : bp_X} {α : bt_A} {σ x : bt_X} (J : m_J α) : ∀ (n p : Nat) (l : Int32), n + p = 256 → bq_W G mX6_loads 2 106 [(0, .ref (bt_ad α 6 0)), (2, .int l), (3, .int (nI p))] [] (bt α σ x) (bq_ret (some (.int (m_lm x n p l))) (bt α σ x)) := by
  intro n
  induction n with
  | zero =>
    intro p l hp
    unfold m_lm
    refine bq_iload_n (i := 3) dX6_loads_106 rfl ?_
    refine bq_sipush (v := (nI 256)) dX6_loads_107 (by decide) ?_
    refine bq_icmp_ge (tgt := 140) dX6_loads_110 (by decide) (fun c_110 => ?_) (fun z9_ => absurd (show nI 256 ≤ nI p from nI_le (by omega) (by omega)) z9_)
    refine bq_iload_n (i := 2) dX6_loads_140 rfl ?_
    exact bq_iret dX6_loads_141 rfl (by first | rfl | decide) bq_ret_i
  | succ n ih =>
    intro p l hp
    unfold m_lm
    refine bq_iload_n (i := 3) dX6_loads_106 rfl ?_
    refine bq_sipush (v := (nI 256)) dX6_loads_107 (by decide) ?_
    refine bq_icmp_ge (tgt := 140) dX6_loads_110 (by decide) (fun z9_ => absurd z9_ (show ¬ nI 256 ≤ nI p from nI_ge (by omega) (by omega))) (fun c_110 => ?_)
    refine bq_aload_n (i := 0) dX6_loads_113 rfl ?_
    refine bt_get3 (c' := 8) (n := 33) dX6_loads_114 fl_X6_68 (by first | assumption | exact J.v3 | exact J.v4 | exact J.v5 | exact J.v6 | exact J.l0 | exact J.l1 | exact J.l2 | exact J.l3 | exact J.row (by assumption) | exact J.ops (by assumption) | exact J.job (by assumption)) ⟨rfl, rfl, rfl⟩ (by decide) ?_
    refine bq_iload_n (i := 3) dX6_loads_117 rfl ?_
    refine bt_iald0 (n := 33) (j := p) dX6_loads_118 J.a33 rfl (by omega) (by decide) rfl ?_
    refine bq_iload_n (i := 2) dX6_loads_119 rfl ?_
    refine bq_icmp_ge (tgt := 132) dX6_loads_120 (by decide) (fun c_120 => ?_) (fun c_120 => ?_)
    · rw [if_pos c_120]
      refine bq_iload_n (i := 2) dX6_loads_132 rfl ?_
      refine bq_istore_n (i := 2) dX6_loads_133 (by decide) ?_
      refine bq_iinc dX6_loads_134 rfl (by decide) (by first | exact bp_inc _ | rfl) ?_
      refine bq_goto (tgt := 106) dX6_loads_137 (by decide) ?_
      refine bq_lvs (lv' := [(0, .ref (bt_ad α 6 0)), (2, .int _), (3, .int (nI (p + 1)))]) ⟨rfl, rfl, rfl, trivial⟩ ?_
      exact ih (p + 1) _ (by omega)
    · rw [if_neg c_120]
      refine bq_aload_n (i := 0) dX6_loads_123 rfl ?_
      refine bt_get3 (c' := 8) (n := 33) dX6_loads_124 fl_X6_68 (by first | assumption | exact J.v3 | exact J.v4 | exact J.v5 | exact J.v6 | exact J.l0 | exact J.l1 | exact J.l2 | exact J.l3 | exact J.row (by assumption) | exact J.ops (by assumption) | exact J.job (by assumption)) ⟨rfl, rfl, rfl⟩ (by decide) ?_
      refine bq_iload_n (i := 3) dX6_loads_127 rfl ?_
      refine bt_iald0 (n := 33) (j := p) dX6_loads_128 J.a33 rfl (by omega) (by decide) rfl ?_
      refine bq_goto (tgt := 133) dX6_loads_129 (by decide) ?_
      refine bq_istore_n (i := 2) dX6_loads_133 (by decide) ?_
      refine bq_iinc dX6_loads_134 rfl (by decide) (by first | exact bp_inc _ | rfl) ?_
      refine bq_goto (tgt := 106) dX6_loads_137 (by decide) ?_
      refine bq_lvs (lv' := [(0, .ref (bt_ad α 6 0)), (2, .int _), (3, .int (nI (p + 1)))]) ⟨rfl, rfl, rfl, trivial⟩ ?_
      exact ih (p + 1) _ (by omega)
set_option maxRecDepth 100000 in
set_option maxHeartbeats 400000 in
theorem n_loads {G : bp_X} {α : bt_A} {σ x : bt_X} {a : Int32} (J : m_J α) (hN : m_Nn σ) (hT : m_T σ) (hR : m_Rw x) : bq_S G mX6_loads 2 [.ref (bt_ad α 6 0), .int a] (bt α σ x) (bq_ret (some (.int (m_loads σ x a).1)) (bt α σ (m_loads σ x a).2)) := by
  refine bq_ofW (by decide +kernel) rfl (Nat.le_of_ble_eq_true rfl) ?_
  cases e1 : b_ix (m_nm σ) a with
  | none =>
    rw [show m_loads σ x a = (nI 0, m_thr x (nI 1)) by unfold m_loads; rw [e1]]
    refine bq_aload_n (i := 0) dX6_loads_0 rfl ?_
    refine bq_aload_n (i := 0) dX6_loads_1 rfl ?_
    refine bq_iload_n (i := 1) dX6_loads_2 rfl ?_
    refine bt_callVr (c := 6) (i := 0) dX6_loads_3 rfl ml_X6_120 (by first | assumption | exact J.v3 | exact J.v4 | exact J.v5 | exact J.v6 | exact J.l0 | exact J.l1 | exact J.l2 | exact J.l3 | exact J.row (by assumption) | exact J.ops (by assumption) | exact J.job (by assumption)) (by decide) (n_isMachine J hN) (by decide) (by decide) (Nat.le_of_ble_eq_true rfl) rfl ?_
    rw [e1]
    refine bq_if_eq (tgt := 13) dX6_loads_6 (by decide) (fun c_6 => ?_) (fun z9_ => absurd (show m_q none = 0 from rfl) z9_)
    refine bq_iconst (v := (nI 1)) dX6_loads_13 (by decide) ?_
    refine bt_put0 dX6_loads_14 fl_X6_74 (by first | assumption | exact J.v3 | exact J.v4 | exact J.v5 | exact J.v6 | exact J.l0 | exact J.l1 | exact J.l2 | exact J.l3 | exact J.row (by assumption) | exact J.ops (by assumption) | exact J.job (by assumption)) rfl (by decide) (by first | rfl | decide) (by first | rfl | decide) ?_
    refine bq_aload_n (i := 0) dX6_loads_17 rfl ?_
    refine bt_get0 dX6_loads_18 fl_X6_74 (by first | assumption | exact J.v3 | exact J.v4 | exact J.v5 | exact J.v6 | exact J.l0 | exact J.l1 | exact J.l2 | exact J.l3 | exact J.row (by assumption) | exact J.ops (by assumption) | exact J.job (by assumption)) rfl (by decide) ?_
    rw [b_gs_at]
    refine bq_if_le (tgt := 26) dX6_loads_21 (by decide) (fun z9_ => absurd z9_ (show ¬ nI 1 ≤ 0 by decide)) (fun c_21 => ?_)
    refine bq_iconst (v := (nI 0)) dX6_loads_24 (by decide) ?_
    exact bq_iret dX6_loads_25 rfl (by first | rfl | decide) bq_ret_i
  | some m =>
    have hb0 : m_nm σ < 9 := by have := hN.1.l; exact Nat.lt_of_lt_of_le this (by decide)
    obtain ⟨ea, hmn⟩ := m_ix_e (by omega) e1
    have hm4 : m < 4 := by have := hN.1.l; have e : m_nm σ = nN (σ.1 6 0 1) := rfl; omega
    rw [show m_loads σ x a = (m_lm (m_lds σ x m) m_256 0 (1000000 : Int32), m_lds σ x m) by unfold m_loads; rw [e1]]
    subst ea
    refine bq_aload_n (i := 0) dX6_loads_0 rfl ?_
    refine bq_aload_n (i := 0) dX6_loads_1 rfl ?_
    refine bq_iload_n (i := 1) dX6_loads_2 rfl ?_
    refine bt_callVr (c := 6) (i := 0) dX6_loads_3 rfl ml_X6_120 (by first | assumption | exact J.v3 | exact J.v4 | exact J.v5 | exact J.v6 | exact J.l0 | exact J.l1 | exact J.l2 | exact J.l3 | exact J.row (by assumption) | exact J.ops (by assumption) | exact J.job (by assumption)) (by decide) (n_isMachine J hN) (by decide) (by decide) (Nat.le_of_ble_eq_true rfl) rfl ?_
    rw [e1]
    refine bq_if_eq (tgt := 13) dX6_loads_6 (by decide) (fun z9_ => absurd z9_ (show ¬ m_q (some m) = 0 by show ¬ nI 1 = 0; decide)) (fun c_6 => ?_)
    refine bq_iconst (v := (nI 0)) dX6_loads_9 (by decide) ?_
    refine bq_goto (tgt := 14) dX6_loads_10 (by decide) ?_
    refine bt_put0 dX6_loads_14 fl_X6_74 (by first | assumption | exact J.v3 | exact J.v4 | exact J.v5 | exact J.v6 | exact J.l0 | exact J.l1 | exact J.l2 | exact J.l3 | exact J.row (by assumption) | exact J.ops (by assumption) | exact J.job (by assumption)) rfl (by decide) (by first | rfl | decide) (by first | rfl | decide) ?_
    refine bq_aload_n (i := 0) dX6_loads_17 rfl ?_
    refine bt_get0 dX6_loads_18 fl_X6_74 (by first | assumption | exact J.v3 | exact J.v4 | exact J.v5 | exact J.v6 | exact J.l0 | exact J.l1 | exact J.l2 | exact J.l3 | exact J.row (by assumption) | exact J.ops (by assumption) | exact J.job (by assumption)) rfl (by decide) ?_
    rw [b_gs_at]
    refine bq_if_le (tgt := 26) dX6_loads_21 (by decide) (fun c_21 => ?_) (fun z9_ => absurd (show nI 0 ≤ 0 by decide) z9_)
    refine bq_iconst (v := (nI 0)) dX6_loads_26 (by decide) ?_
    refine bq_istore_n (i := 2) dX6_loads_27 (by decide) ?_
    refine bq_lvs (lv' := [(0, .ref (bt_ad α 6 0)), (1, .int (nI m)), (2, .int (nI 0))]) ⟨rfl, rfl, rfl, trivial⟩ ?_
    refine n_lz J m_256 0 _ m_256_e ?_
    refine bq_iconst (v := nI 0) dX6_loads_57 (by decide) ?_
    refine bq_istore_n (i := 2) dX6_loads_58 (by decide) ?_
    refine bq_lvs (lv' := [(0, .ref (bt_ad α 6 0)), (1, .int (nI m)), (2, .int (nI 0))]) ⟨rfl, rfl, rfl, trivial⟩ ?_
    have er : m_rn (m_lz m_256 0 (m_thr x (nI 0))) m = m_rn x m := by unfold m_rn; rw [m_lz_n (by omega), m_thr_n (by omega)]
    refine n_lr J hT hm4 (m_rn x m) 0 (m_lz m_256 0 (m_thr x (nI 0))) rfl er.symm (hR.thr.ext (fun i k hi => m_lz_n (by omega) _ _ _)) ?_
    refine bq_ldc dX6_loads_101 kc_X6_116 ?_
    refine bq_istore_n (i := 2) dX6_loads_103 (by decide) ?_
    refine bq_iconst (v := (nI 0)) dX6_loads_104 (by decide) ?_
    refine bq_istore_n (i := 3) dX6_loads_105 (by decide) ?_
    refine bq_lvs (lv' := [(0, .ref (bt_ad α 6 0)), (2, .int (1000000 : Int32)), (3, .int (nI 0))]) ⟨rfl, rfl, rfl, trivial⟩ ?_
    exact n_lm J m_256 0 _ m_256_e
