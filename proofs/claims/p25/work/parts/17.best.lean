/-! ===== the best place ===== -/
theorem b_lk_l {os : List Nat} {x : bt_X} {a : Option Nat} : (b_lk x a os).2.2 = x.2.2 := (b_lk_g os x a).2
theorem b_link_l {x : bt_X} {m : Nat} : (b_link x m).2.2 = x.2.2 := b_lk_l
theorem b_link_1 {x : bt_X} {m : Nat} : (b_link x m).1 = x.1 := (b_lk_g _ x _).1
theorem bt_J.lk {α : bt_A} {σ : bt_X} (os : List Nat) : ∀ {x : bt_X} {a : Option Nat}, bt_J α σ x → (∀ i ∈ os, bt_V α 2 i) → (∀ b, a = some b → bt_V α 2 b) → bt_J α σ (b_lk x a os) := by
  induction os with
  | nil => intro x a J _ _; exact J
  | cons i os ih =>
    intro x a J hs ha
    have hi := hs i List.mem_cons_self
    unfold b_lk
    cases a with
    | none => exact ih ((J.rs (fun _ e => by cases e)).rs (fun _ e => by cases e)) (fun y hy => hs y (List.mem_cons_of_mem _ hy)) (fun b e => by cases e; exact hi)
    | some b => exact ih (((J.rs (fun _ e => by cases e; exact ha _ rfl)).rs (fun _ e => by cases e)).rs (fun _ e => by cases e; exact hi)) (fun y hy => hs y (List.mem_cons_of_mem _ hy)) (fun b e => by cases e; exact hi)
theorem bt_J.link {α : bt_A} {σ x : bt_X} {m : Nat} (J : bt_J α σ x) (h : ∀ i ∈ x.2.2 (4 + m), bt_V α 2 i) : bt_J α σ (b_link x m) := bt_J.lk _ J h (fun _ e => by cases e)
theorem b_ins_l {x : bt_X} {m p i : Nat} : (b_ins x m p i).2.2 (4 + m) = (x.2.2 (4 + m)).insertIdx p i := by
  unfold b_ins
  rw [b_link_l, bt_lp_at]
theorem bt_lp_ne {x : bt_X} {n k : Nat} {v : List Nat} (h : k ≠ n) : (bt_lp x n v).2.2 k = x.2.2 k := if_neg h
theorem b_ins_n {x : bt_X} {m p i n : Nat} (h : n ≠ 4 + m) : (b_ins x m p i).2.2 n = x.2.2 n := by
  unfold b_ins
  rw [b_link_l, bt_lp_ne h]
theorem b_out_l {x : bt_X} {m p : Nat} : (b_out x m p).2.2 (4 + m) = (x.2.2 (4 + m)).eraseIdx p := by
  unfold b_out
  rw [b_link_l, bt_lp_at]
theorem b_out_n {x : bt_X} {m p n : Nat} (h : n ≠ 4 + m) : (b_out x m p).2.2 n = x.2.2 n := by
  unfold b_out
  rw [b_link_l, bt_lp_ne h]
theorem bt_J.ins {α : bt_A} {σ x : bt_X} {m p i : Nat} (J : bt_J α σ x) (h : ∀ i ∈ x.2.2 (4 + m), bt_V α 2 i) (hi : bt_V α 2 i) (hp : p ≤ (x.2.2 (4 + m)).length) : bt_J α σ (b_ins x m p i) := by
  unfold b_ins
  refine J.lp.link (fun y hy => ?_)
  rw [bt_lp_at] at hy
  rcases (List.mem_insertIdx hp).mp hy with rfl | hy
  · exact hi
  · exact h y hy
theorem bt_J.out {α : bt_A} {σ x : bt_X} {m p : Nat} (J : bt_J α σ x) (h : ∀ i ∈ x.2.2 (4 + m), bt_V α 2 i) : bt_J α σ (b_out x m p) := by
  unfold b_out
  refine J.lp.link (fun y hy => ?_)
  rw [bt_lp_at] at hy
  exact h y (List.mem_of_mem_eraseIdx hy)
/-- all times keep links and rows -/
theorem b_rounds_fr {σ : bt_X} {p : Nat} (hn : (σ.2.2 0).Nodup) : ∀ (n : Nat) (x : bt_X), b_TI x (σ.2.2 0) → (x.2.2 2).length + b_left x (σ.2.2 0) ≤ 32 →
    (b_rounds σ p n x).2.2.1 = x.2.1 ∧ (∀ l, l ≠ 2 → (b_rounds σ p n x).2.2.2 l = x.2.2 l) ∧ ((b_rounds σ p n x).2.2.2 2).length ≤ 32 := by
  intro n
  induction n with
  | zero => intro x hT ho; exact ⟨rfl, fun _ _ => rfl, by show (x.2.2 2).length ≤ 32; omega⟩
  | succ n ih =>
    intro x hT ho
    obtain ⟨g1, g2, g3, g4, g5⟩ := b_rows_TI (σ := σ) hn (σ.2.2 0) x (fun _ hm => hm) hT ho
    unfold b_rounds
    by_cases c : (x.2.2 2).length < p
    · rw [if_pos c]
      by_cases c2 : ((b_rows σ x (σ.2.2 0)).2.2 2).length = (x.2.2 2).length
      · rw [if_pos c2]; exact ⟨g3, g4, by show ((b_rows σ x (σ.2.2 0)).2.2 2).length ≤ 32; omega⟩
      · rw [if_neg c2]
        obtain ⟨q1, q2, q3⟩ := ih _ g1 g2
        exact ⟨q1.trans g3, fun l hl => (q2 l hl).trans (g4 l hl), q3⟩
    · rw [if_neg c]; exact ⟨rfl, fun _ _ => rfl, by show (x.2.2 2).length ≤ 32; omega⟩
theorem b_all_fr {σ x : bt_X} (h : b_H0 σ x) : (b_all σ x).2.2.1 = x.2.1 ∧ (∀ l, l ≠ 2 → (b_all σ x).2.2.2 l = x.2.2 l) ∧ ((b_all σ x).2.2.2 2).length ≤ 32 := by
  obtain ⟨g1, g2⟩ := b_begin_TI h
  obtain ⟨q1, q2, q3⟩ := b_rounds_fr (p := b_cnt x (σ.2.2 0)) h.2.2.1 32 (b_begin σ x) g1 g2
  refine ⟨q1.trans (by rw [b_begin_2]; rfl), fun l hl => (q2 l hl).trans (by rw [b_begin_2]; exact bt_lp_ne hl), q3⟩
theorem b_all_b {σ x : bt_X} : narrow .boolean (.int (b_all σ x).1) = .int (b_all σ x).1 := by
  have key : ∀ (n p : Nat) (y : bt_X), (b_rounds σ p n y).1 = nI 0 ∨ (b_rounds σ p n y).1 = nI 1 := by
    intro n p
    have h1 : ∀ y : bt_X, (if (y.2.2 2).length = p then nI 1 else nI 0) = nI 0 ∨ (if (y.2.2 2).length = p then nI 1 else nI 0) = nI 1 := fun y => by
      by_cases c : (y.2.2 2).length = p
      · rw [if_pos c]; exact Or.inr rfl
      · rw [if_neg c]; exact Or.inl rfl
    induction n with
    | zero => intro y; exact h1 y
    | succ n ih =>
      intro y
      unfold b_rounds
      by_cases c : (y.2.2 2).length < p
      · rw [if_pos c]
        by_cases c2 : ((b_rows σ y (σ.2.2 0)).2.2 2).length = (y.2.2 2).length
        · rw [if_pos c2]; exact Or.inl rfl
        · rw [if_neg c2]; exact ih _
      · rw [if_neg c]; exact h1 y
  unfold b_all
  rcases key 32 (b_cnt x (σ.2.2 0)) (b_begin σ x) with h | h <;> rw [h] <;> rfl
theorem b_cnt_ext {x y : bt_X} {L : List Nat} (h : ∀ m ∈ L, (y.2.2 (4 + m)).length = (x.2.2 (4 + m)).length) : b_cnt y L = b_cnt x L := by
  induction L with
  | nil => rfl
  | cons m L ih => unfold b_cnt; rw [h m List.mem_cons_self, ih (fun m' hm => h m' (List.mem_cons_of_mem _ hm))]
theorem b_cnt_one {x y : bt_X} {m : Nat} {L : List Nat} (hn : L.Nodup) (hm : m ∈ L) (h : ∀ m', m' ≠ m → y.2.2 (4 + m') = x.2.2 (4 + m')) (hk : (y.2.2 (4 + m)).length = (x.2.2 (4 + m)).length + 1) : b_cnt y L = b_cnt x L + 1 := by
  induction L with
  | nil => cases hm
  | cons a L ih =>
    unfold b_cnt
    rw [List.nodup_cons] at hn
    rcases List.mem_cons.mp hm with rfl | hm
    · rw [hk, b_cnt_ext (x := x) (y := y) (fun m' hm' => by rw [h m' (fun z => hn.1 (by rw [← z]; exact hm'))])]
      omega
    · rw [ih hn.2 hm, h a (fun z => hn.1 (by rw [z]; exact hm))]
      omega
theorem b_H0_ins {σ x : bt_X} {m p i : Nat} (h0 : (σ.2.2 0).length ≤ 4) (h1 : (σ.2.2 1).length ≤ 8) (hn : (σ.2.2 0).Nodup) (hm : m ∈ σ.2.2 0) (hc : b_cnt x (σ.2.2 0) ≤ 31) (hp : p ≤ (x.2.2 (4 + m)).length) : b_H0 σ (b_ins x m p i) := by
  refine ⟨h0, h1, hn, ?_⟩
  rw [b_cnt_one (x := x) hn hm (fun m' hm' => b_ins_n (by omega)) (by rw [b_ins_l, List.length_insertIdx_of_le_length hp])]
  omega
def b_try (σ : bt_X) (i m : Nat) : Nat → Nat → bt_X → Nat → Int32 → Int32 → Nat × bt_X
  | 0, _, x, b, _, _ => (b, x)
  | n + 1, j, x, b, s, t =>
    let y := b_all σ (b_ins x m j i)
    if y.1 = 0 then b_try σ i m n (j + 1) (b_out y.2 m j) b s t
    else if y.2.1 4 0 5 < s then b_try σ i m n (j + 1) (b_out y.2 m j) j (y.2.1 4 0 5) (y.2.1 2 i 10)
    else if y.2.1 4 0 5 = s then (if t ≤ y.2.1 2 i 10 then b_try σ i m n (j + 1) (b_out y.2 m j) b s t else b_try σ i m n (j + 1) (b_out y.2 m j) j (y.2.1 4 0 5) (y.2.1 2 i 10))
    else b_try σ i m n (j + 1) (b_out y.2 m j) b s t
def b_best (σ x : bt_X) (i : Nat) : bt_X :=
  let r := b_try σ i (b_m σ i) ((x.2.2 (4 + b_m σ i)).length + 1) 0 x (x.2.2 (4 + b_m σ i)).length (1000000 : Int32) (1000000 : Int32)
  b_ins r.2 (b_m σ i) r.1 i
theorem b_ins_out {L : List Nat} {p i : Nat} (h : p ≤ L.length) : (L.insertIdx p i).eraseIdx p = L := List.eraseIdx_insertIdx_self _
set_option maxRecDepth 100000 in
set_option maxHeartbeats 400000 in
theorem c_try_l {G : bp_X} {α : bt_A} {σ : bt_X} {i m : Nat} {row : List Nat} {Φ : bp_O → bq_O → Prop} (hO : bt_V α 2 i) (hV : bt_V α 1 m) (h0 : (σ.2.2 0).length ≤ 4) (h1 : (σ.2.2 1).length ≤ 8) (hn : (σ.2.2 0).Nodup) (hmm : m ∈ σ.2.2 0) (hrow : ∀ y ∈ row, bt_V α 2 y) (hlen : row.length ≤ 31) :
    ∀ (n j : Nat) (x : bt_X) (b : Nat) (s t : Int32), j + n = row.length + 1 → bt_J α σ x → x.2.2 (4 + m) = row → b_cnt x (σ.2.2 0) ≤ 31 → b ≤ row.length →
    (∀ (b' : Nat) (x' : bt_X), bt_J α σ x' → x'.2.2 (4 + m) = row → b' ≤ row.length → b_cnt x' (σ.2.2 0) ≤ 31 → b_try σ i m n j x b s t = (b', x') → bq_W G mX4_insertAtBestPlace 10 102 [(0, .ref (bt_ad α 4 0)), (1, .ref (bt_ad α 2 i)), (2, .ref (bt_ad α 1 m)), (4, .int (nI b'))] [] (bt α σ x') Φ) →
    bq_W G mX4_insertAtBestPlace 10 27 [(0, .ref (bt_ad α 4 0)), (1, .ref (bt_ad α 2 i)), (2, .ref (bt_ad α 1 m)), (3, .int (nI row.length)), (4, .int (nI b)), (5, .int s), (6, .int t), (7, .int (nI j))] [] (bt α σ x) Φ := by
  intro n
  induction n with
  | zero =>
    intro j x b s t hj J hr hc hb kk
    refine bq_iload (i := 7) dX4_insertAtBestPlace_27 rfl ?_
    refine bq_iload_n (i := 3) dX4_insertAtBestPlace_29 rfl ?_
    refine bq_icmp_gt (tgt := 102) dX4_insertAtBestPlace_30 (by decide) (fun c_30 => ?_) (fun z9_ => absurd (show nI row.length < nI j from nI_lt (by omega) (by omega)) z9_)
    refine bq_lvs (lv' := [(0, .ref (bt_ad α 4 0)), (1, .ref (bt_ad α 2 i)), (2, .ref (bt_ad α 1 m)), (4, .int (nI b))]) ⟨rfl, rfl, rfl, rfl, trivial⟩ ?_
    exact kk b x J hr hb hc rfl
  | succ n ih =>
    intro j x b s t hj J hr hc hb kk
    have hm := J.m4 hV
    have hjl : j ≤ (x.2.2 (4 + m)).length := by rw [hr]; omega
    have hrx : ∀ y ∈ x.2.2 (4 + m), bt_V α 2 y := by rw [hr]; exact hrow
    have hH := b_H0_ins (i := i) h0 h1 hn hmm hc hjl
    have J1 : bt_J α σ (b_ins x m j i) := J.ins hrx hO hjl
    obtain ⟨q1, q2, q3⟩ := b_all_fr hH
    have hr2 : (b_all σ (b_ins x m j i)).2.2.2 (4 + m) = row.insertIdx j i := by rw [q2 _ (by omega), b_ins_l, hr]
    have J2 : bt_J α σ (b_all σ (b_ins x m j i)).2 := J1.any q1
    have hg : ((b_all σ (b_ins x m j i)).2.2.2 (4 + m))[j]? = some i := by rw [hr2]; exact List.getElem?_insertIdx_self.trans (if_pos (by omega))
    have hl2 : ((b_all σ (b_ins x m j i)).2.2.2 (4 + m)).length ≤ 33 := by rw [hr2, List.length_insertIdx_of_le_length (by omega)]; omega
    have J3 : bt_J α σ (b_out (b_all σ (b_ins x m j i)).2 m j) := J2.out (fun y hy => by
      rw [hr2] at hy
      rcases (List.mem_insertIdx (by omega)).mp hy with rfl | hy
      · exact hO
      · exact hrow y hy)
    have hr3 : (b_out (b_all σ (b_ins x m j i)).2 m j).2.2 (4 + m) = row := by rw [b_out_l, hr2]; exact b_ins_out (by omega)
    have hc3 : b_cnt (b_out (b_all σ (b_ins x m j i)).2 m j) (σ.2.2 0) ≤ 31 := by
      rw [b_cnt_ext (x := x) (fun m' _ => ?_)]
      · exact hc
      · by_cases e : m' = m
        · subst e; rw [hr3, hr]
        · rw [b_out_n (by omega), q2 _ (by omega), b_ins_n (by omega)]
    unfold b_try at kk
    simp only [] at kk
    refine bq_iload (i := 7) dX4_insertAtBestPlace_27 rfl ?_
    refine bq_iload_n (i := 3) dX4_insertAtBestPlace_29 rfl ?_
    refine bq_icmp_gt (tgt := 102) dX4_insertAtBestPlace_30 (by decide) (fun z9_ => absurd z9_ (show ¬ nI row.length < nI j from nI_nlt (by omega) (by omega))) (fun c_30 => ?_)
    refine bq_aload_n (i := 2) dX4_insertAtBestPlace_33 rfl ?_
    refine bq_aload_n (i := 1) dX4_insertAtBestPlace_34 rfl ?_
    refine bq_iload (i := 7) dX4_insertAtBestPlace_35 rfl ?_
    refine bt_callVr (c := 1) (i := m) dX4_insertAtBestPlace_37 rfl ml_X4_50 (by first | assumption | exact J.v3 | exact J.v4 | exact J.v5 | exact J.v6 | exact J.l0 | exact J.l1 | exact J.l2 | exact J.l3 | exact J.row (by assumption) | exact J.ops (by assumption) | exact J.job (by assumption)) (by decide) (c_ins J hV hO (by rw [hr]; omega) hjl) (by decide) (by decide) (Nat.le_of_ble_eq_true rfl) rfl ?_
    refine bq_aload_n (i := 0) dX4_insertAtBestPlace_40 rfl ?_
    refine bt_callVr (c := 4) (i := 0) dX4_insertAtBestPlace_41 rfl ml_X4_54 (by first | assumption | exact J.v3 | exact J.v4 | exact J.v5 | exact J.v6 | exact J.l0 | exact J.l1 | exact J.l2 | exact J.l3 | exact J.row (by assumption) | exact J.ops (by assumption) | exact J.job (by assumption)) (by decide) (c_all J1 hH) (by decide) (by decide) (Nat.le_of_ble_eq_true rfl) rfl ?_
    refine bq_if_eq (tgt := 90) dX4_insertAtBestPlace_44 (by decide) (fun c_44 => ?_) (fun c_44 => ?_)
    · rw [if_pos c_44] at kk
      refine bq_aload_n (i := 2) dX4_insertAtBestPlace_90 rfl ?_
      refine bq_iload (i := 7) dX4_insertAtBestPlace_91 rfl ?_
      refine bt_callVr (c := 1) (i := m) dX4_insertAtBestPlace_93 rfl ml_X4_65 (by first | assumption | exact J.v3 | exact J.v4 | exact J.v5 | exact J.v6 | exact J.l0 | exact J.l1 | exact J.l2 | exact J.l3 | exact J.row (by assumption) | exact J.ops (by assumption) | exact J.job (by assumption)) (by decide) (c_out J2 hV hg hl2) (by decide) (by decide) (Nat.le_of_ble_eq_true rfl) rfl ?_
      refine bq_iinc dX4_insertAtBestPlace_96 rfl (by decide) (by first | exact bp_inc _ | rfl) ?_
      refine bq_goto (tgt := 27) dX4_insertAtBestPlace_99 (by decide) ?_
      refine bq_lvs (lv' := [(0, .ref (bt_ad α 4 0)), (1, .ref (bt_ad α 2 i)), (2, .ref (bt_ad α 1 m)), (3, .int (nI row.length)), (4, .int (nI b)), (5, .int s), (6, .int t), (7, .int (nI (j + 1)))]) ⟨rfl, rfl, rfl, rfl, rfl, rfl, rfl, rfl, trivial⟩ ?_
      exact ih (j + 1) _ _ _ _ (by omega) J3 hr3 hc3 (by omega) kk
    · rw [if_neg c_44] at kk
      refine bq_aload_n (i := 0) dX4_insertAtBestPlace_47 rfl ?_
      refine bt_get0 dX4_insertAtBestPlace_48 fl_X4_58 (by first | assumption | exact J.v3 | exact J.v4 | exact J.v5 | exact J.v6 | exact J.l0 | exact J.l1 | exact J.l2 | exact J.l3 | exact J.row (by assumption) | exact J.ops (by assumption) | exact J.job (by assumption)) rfl (by decide) ?_
      refine bq_iload (i := 5) dX4_insertAtBestPlace_51 rfl ?_
      refine bq_icmp_lt (tgt := 74) dX4_insertAtBestPlace_53 (by decide) (fun c_53 => ?_) (fun c_53 => ?_)
      · rw [if_pos c_53] at kk
        refine bq_iload (i := 7) dX4_insertAtBestPlace_74 rfl ?_
        refine bq_istore (i := 4) dX4_insertAtBestPlace_76 (by decide) ?_
        refine bq_aload_n (i := 0) dX4_insertAtBestPlace_78 rfl ?_
        refine bt_get0 dX4_insertAtBestPlace_79 fl_X4_58 (by first | assumption | exact J.v3 | exact J.v4 | exact J.v5 | exact J.v6 | exact J.l0 | exact J.l1 | exact J.l2 | exact J.l3 | exact J.row (by assumption) | exact J.ops (by assumption) | exact J.job (by assumption)) rfl (by decide) ?_
        refine bq_istore (i := 5) dX4_insertAtBestPlace_82 (by decide) ?_
        refine bq_aload_n (i := 1) dX4_insertAtBestPlace_84 rfl ?_
        refine bt_get0 dX4_insertAtBestPlace_85 fl_X4_62 (by first | assumption | exact J.v3 | exact J.v4 | exact J.v5 | exact J.v6 | exact J.l0 | exact J.l1 | exact J.l2 | exact J.l3 | exact J.row (by assumption) | exact J.ops (by assumption) | exact J.job (by assumption)) rfl (by decide) ?_
        refine bq_istore (i := 6) dX4_insertAtBestPlace_88 (by decide) ?_
        refine bq_aload_n (i := 2) dX4_insertAtBestPlace_90 rfl ?_
        refine bq_iload (i := 7) dX4_insertAtBestPlace_91 rfl ?_
        refine bt_callVr (c := 1) (i := m) dX4_insertAtBestPlace_93 rfl ml_X4_65 (by first | assumption | exact J.v3 | exact J.v4 | exact J.v5 | exact J.v6 | exact J.l0 | exact J.l1 | exact J.l2 | exact J.l3 | exact J.row (by assumption) | exact J.ops (by assumption) | exact J.job (by assumption)) (by decide) (c_out J2 hV hg hl2) (by decide) (by decide) (Nat.le_of_ble_eq_true rfl) rfl ?_
        refine bq_iinc dX4_insertAtBestPlace_96 rfl (by decide) (by first | exact bp_inc _ | rfl) ?_
        refine bq_goto (tgt := 27) dX4_insertAtBestPlace_99 (by decide) ?_
        refine bq_lvs (lv' := [(0, .ref (bt_ad α 4 0)), (1, .ref (bt_ad α 2 i)), (2, .ref (bt_ad α 1 m)), (3, .int (nI row.length)), (4, .int (nI j)), (5, .int ((b_all σ (b_ins x m j i)).2.1 4 0 5)), (6, .int ((b_all σ (b_ins x m j i)).2.1 2 i 10)), (7, .int (nI (j + 1)))]) ⟨rfl, rfl, rfl, rfl, rfl, rfl, rfl, rfl, trivial⟩ ?_
        exact ih (j + 1) _ _ _ _ (by omega) J3 hr3 hc3 (by omega) kk
      · rw [if_neg c_53] at kk
        refine bq_aload_n (i := 0) dX4_insertAtBestPlace_56 rfl ?_
        refine bt_get0 dX4_insertAtBestPlace_57 fl_X4_58 (by first | assumption | exact J.v3 | exact J.v4 | exact J.v5 | exact J.v6 | exact J.l0 | exact J.l1 | exact J.l2 | exact J.l3 | exact J.row (by assumption) | exact J.ops (by assumption) | exact J.job (by assumption)) rfl (by decide) ?_
        refine bq_iload (i := 5) dX4_insertAtBestPlace_60 rfl ?_
        refine bq_icmp_ne (tgt := 90) dX4_insertAtBestPlace_62 (by decide) (fun c_62 => ?_) (fun c_62 => ?_)
        · rw [if_neg c_62] at kk
          refine bq_aload_n (i := 2) dX4_insertAtBestPlace_90 rfl ?_
          refine bq_iload (i := 7) dX4_insertAtBestPlace_91 rfl ?_
          refine bt_callVr (c := 1) (i := m) dX4_insertAtBestPlace_93 rfl ml_X4_65 (by first | assumption | exact J.v3 | exact J.v4 | exact J.v5 | exact J.v6 | exact J.l0 | exact J.l1 | exact J.l2 | exact J.l3 | exact J.row (by assumption) | exact J.ops (by assumption) | exact J.job (by assumption)) (by decide) (c_out J2 hV hg hl2) (by decide) (by decide) (Nat.le_of_ble_eq_true rfl) rfl ?_
          refine bq_iinc dX4_insertAtBestPlace_96 rfl (by decide) (by first | exact bp_inc _ | rfl) ?_
          refine bq_goto (tgt := 27) dX4_insertAtBestPlace_99 (by decide) ?_
          refine bq_lvs (lv' := [(0, .ref (bt_ad α 4 0)), (1, .ref (bt_ad α 2 i)), (2, .ref (bt_ad α 1 m)), (3, .int (nI row.length)), (4, .int (nI b)), (5, .int s), (6, .int t), (7, .int (nI (j + 1)))]) ⟨rfl, rfl, rfl, rfl, rfl, rfl, rfl, rfl, trivial⟩ ?_
          exact ih (j + 1) _ _ _ _ (by omega) J3 hr3 hc3 (by omega) kk
        · rw [if_pos c_62] at kk
          refine bq_aload_n (i := 1) dX4_insertAtBestPlace_65 rfl ?_
          refine bt_get0 dX4_insertAtBestPlace_66 fl_X4_62 (by first | assumption | exact J.v3 | exact J.v4 | exact J.v5 | exact J.v6 | exact J.l0 | exact J.l1 | exact J.l2 | exact J.l3 | exact J.row (by assumption) | exact J.ops (by assumption) | exact J.job (by assumption)) rfl (by decide) ?_
          refine bq_iload (i := 6) dX4_insertAtBestPlace_69 rfl ?_
          refine bq_icmp_ge (tgt := 90) dX4_insertAtBestPlace_71 (by decide) (fun c_71 => ?_) (fun c_71 => ?_)
          · rw [if_pos c_71] at kk
            refine bq_aload_n (i := 2) dX4_insertAtBestPlace_90 rfl ?_
            refine bq_iload (i := 7) dX4_insertAtBestPlace_91 rfl ?_
            refine bt_callVr (c := 1) (i := m) dX4_insertAtBestPlace_93 rfl ml_X4_65 (by first | assumption | exact J.v3 | exact J.v4 | exact J.v5 | exact J.v6 | exact J.l0 | exact J.l1 | exact J.l2 | exact J.l3 | exact J.row (by assumption) | exact J.ops (by assumption) | exact J.job (by assumption)) (by decide) (c_out J2 hV hg hl2) (by decide) (by decide) (Nat.le_of_ble_eq_true rfl) rfl ?_
            refine bq_iinc dX4_insertAtBestPlace_96 rfl (by decide) (by first | exact bp_inc _ | rfl) ?_
            refine bq_goto (tgt := 27) dX4_insertAtBestPlace_99 (by decide) ?_
            refine bq_lvs (lv' := [(0, .ref (bt_ad α 4 0)), (1, .ref (bt_ad α 2 i)), (2, .ref (bt_ad α 1 m)), (3, .int (nI row.length)), (4, .int (nI b)), (5, .int s), (6, .int t), (7, .int (nI (j + 1)))]) ⟨rfl, rfl, rfl, rfl, rfl, rfl, rfl, rfl, trivial⟩ ?_
            exact ih (j + 1) _ _ _ _ (by omega) J3 hr3 hc3 (by omega) kk
          · rw [if_neg c_71] at kk
            refine bq_iload (i := 7) dX4_insertAtBestPlace_74 rfl ?_
            refine bq_istore (i := 4) dX4_insertAtBestPlace_76 (by decide) ?_
            refine bq_aload_n (i := 0) dX4_insertAtBestPlace_78 rfl ?_
            refine bt_get0 dX4_insertAtBestPlace_79 fl_X4_58 (by first | assumption | exact J.v3 | exact J.v4 | exact J.v5 | exact J.v6 | exact J.l0 | exact J.l1 | exact J.l2 | exact J.l3 | exact J.row (by assumption) | exact J.ops (by assumption) | exact J.job (by assumption)) rfl (by decide) ?_
            refine bq_istore (i := 5) dX4_insertAtBestPlace_82 (by decide) ?_
            refine bq_aload_n (i := 1) dX4_insertAtBestPlace_84 rfl ?_
            refine bt_get0 dX4_insertAtBestPlace_85 fl_X4_62 (by first | assumption | exact J.v3 | exact J.v4 | exact J.v5 | exact J.v6 | exact J.l0 | exact J.l1 | exact J.l2 | exact J.l3 | exact J.row (by assumption) | exact J.ops (by assumption) | exact J.job (by assumption)) rfl (by decide) ?_
            refine bq_istore (i := 6) dX4_insertAtBestPlace_88 (by decide) ?_
            refine bq_aload_n (i := 2) dX4_insertAtBestPlace_90 rfl ?_
            refine bq_iload (i := 7) dX4_insertAtBestPlace_91 rfl ?_
            refine bt_callVr (c := 1) (i := m) dX4_insertAtBestPlace_93 rfl ml_X4_65 (by first | assumption | exact J.v3 | exact J.v4 | exact J.v5 | exact J.v6 | exact J.l0 | exact J.l1 | exact J.l2 | exact J.l3 | exact J.row (by assumption) | exact J.ops (by assumption) | exact J.job (by assumption)) (by decide) (c_out J2 hV hg hl2) (by decide) (by decide) (Nat.le_of_ble_eq_true rfl) rfl ?_
            refine bq_iinc dX4_insertAtBestPlace_96 rfl (by decide) (by first | exact bp_inc _ | rfl) ?_
            refine bq_goto (tgt := 27) dX4_insertAtBestPlace_99 (by decide) ?_
            refine bq_lvs (lv' := [(0, .ref (bt_ad α 4 0)), (1, .ref (bt_ad α 2 i)), (2, .ref (bt_ad α 1 m)), (3, .int (nI row.length)), (4, .int (nI j)), (5, .int ((b_all σ (b_ins x m j i)).2.1 4 0 5)), (6, .int ((b_all σ (b_ins x m j i)).2.1 2 i 10)), (7, .int (nI (j + 1)))]) ⟨rfl, rfl, rfl, rfl, rfl, rfl, rfl, rfl, trivial⟩ ?_
            exact ih (j + 1) _ _ _ _ (by omega) J3 hr3 hc3 (by omega) kk
set_option maxRecDepth 100000 in
set_option maxHeartbeats 400000 in
theorem c_best {G : bp_X} {α : bt_A} {σ x : bt_X} {i m : Nat} (J : bt_J α σ x) (hO : bt_V α 2 i) (hm : σ.2.1 2 i 2 = some m) (hV : bt_V α 1 m) (h0 : (σ.2.2 0).length ≤ 4) (h1 : (σ.2.2 1).length ≤ 8) (hn : (σ.2.2 0).Nodup) (hmm : m ∈ σ.2.2 0) (hrow : ∀ y ∈ x.2.2 (4 + m), bt_V α 2 y) (hc : b_cnt x (σ.2.2 0) ≤ 31) : bq_S G mX4_insertAtBestPlace 10 [.ref (bt_ad α 4 0), .ref (bt_ad α 2 i)] (bt α σ x) (bq_ret none (bt α σ (b_best σ x i))) := by
  have e1 := b_m_of hm
  unfold b_best
  rw [e1]
  have hm4 := J.m4 hV
  have hlen := Nat.le_trans (b_cnt_mem (x := x) hmm) hc
  refine bq_ofW (by decide +kernel) rfl (Nat.le_of_ble_eq_true rfl) ?_
  refine bq_aload_n (i := 1) dX4_insertAtBestPlace_0 rfl ?_
  refine bt_get5s (c' := 1) (a := m) dX4_insertAtBestPlace_1 fl_X4_34 (by first | assumption | exact J.v3 | exact J.v4 | exact J.v5 | exact J.v6 | exact J.l0 | exact J.l1 | exact J.l2 | exact J.l3 | exact J.row (by assumption) | exact J.ops (by assumption) | exact J.job (by assumption)) ⟨rfl, rfl⟩ (by decide) hm ?_
  refine bq_astore_n (i := 2) dX4_insertAtBestPlace_4 (by decide) ?_
  refine bq_aload_n (i := 2) dX4_insertAtBestPlace_5 rfl ?_
  refine bt_get3 (c' := 7) (n := (4 + m)) dX4_insertAtBestPlace_6 fl_X4_40 (by first | assumption | exact J.v3 | exact J.v4 | exact J.v5 | exact J.v6 | exact J.l0 | exact J.l1 | exact J.l2 | exact J.l3 | exact J.row (by assumption) | exact J.ops (by assumption) | exact J.job (by assumption)) ⟨rfl, rfl, rfl⟩ (by decide) ?_
  refine bt_size dX4_insertAtBestPlace_9 ml_X4_45 (by first | assumption | exact J.v3 | exact J.v4 | exact J.v5 | exact J.v6 | exact J.l0 | exact J.l1 | exact J.l2 | exact J.l3 | exact J.row (by assumption) | exact J.ops (by assumption) | exact J.job (by assumption)) (bt_lv (bt_sl_row (by assumption))) (by decide) (Nat.le_of_ble_eq_true rfl) ?_
  refine bq_istore_n (i := 3) dX4_insertAtBestPlace_12 (by decide) ?_
  refine bq_iload_n (i := 3) dX4_insertAtBestPlace_13 rfl ?_
  refine bq_istore (i := 4) dX4_insertAtBestPlace_14 (by decide) ?_
  refine bq_ldc dX4_insertAtBestPlace_16 kc_X4_49 ?_
  refine bq_istore (i := 5) dX4_insertAtBestPlace_18 (by decide) ?_
  refine bq_ldc dX4_insertAtBestPlace_20 kc_X4_49 ?_
  refine bq_istore (i := 6) dX4_insertAtBestPlace_22 (by decide) ?_
  refine bq_iconst (v := (nI 0)) dX4_insertAtBestPlace_24 (by decide) ?_
  refine bq_istore (i := 7) dX4_insertAtBestPlace_25 (by decide) ?_
  refine bq_lvs (lv' := [(0, .ref (bt_ad α 4 0)), (1, .ref (bt_ad α 2 i)), (2, .ref (bt_ad α 1 m)), (3, .int (nI (x.2.2 (4 + m)).length)), (4, .int (nI (x.2.2 (4 + m)).length)), (5, .int (1000000 : Int32)), (6, .int (1000000 : Int32)), (7, .int (nI 0))]) ⟨rfl, rfl, rfl, rfl, rfl, rfl, rfl, rfl, trivial⟩ ?_
  refine c_try_l hO hV h0 h1 hn hmm hrow hlen ((x.2.2 (4 + m)).length + 1) 0 x _ _ _ (by omega) J rfl hc (Nat.le_refl _) (fun b y J1 hr hb hc1 e => ?_)
  rw [e]
  simp only []
  refine bq_aload_n (i := 2) dX4_insertAtBestPlace_102 rfl ?_
  refine bq_aload_n (i := 1) dX4_insertAtBestPlace_103 rfl ?_
  refine bq_iload (i := 4) dX4_insertAtBestPlace_104 rfl ?_
  refine bt_callVr (c := 1) (i := m) dX4_insertAtBestPlace_106 rfl ml_X4_50 (by first | assumption | exact J.v3 | exact J.v4 | exact J.v5 | exact J.v6 | exact J.l0 | exact J.l1 | exact J.l2 | exact J.l3 | exact J.row (by assumption) | exact J.ops (by assumption) | exact J.job (by assumption)) (by decide) (c_ins J1 hV hO (by rw [hr]; omega) (by rw [hr]; exact hb)) (by decide) (by decide) (Nat.le_of_ble_eq_true rfl) rfl ?_
  exact bq_vret dX4_insertAtBestPlace_109 rfl bq_ret_i

