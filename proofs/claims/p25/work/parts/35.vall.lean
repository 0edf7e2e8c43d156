/-! ===== all times ===== -/
section VROW
variable {σ : bt_X} {m : Nat}
theorem v_row (hS : b_St σ) (hO : v_O σ) (hm : m < b_nm σ) : ∀ (os : List Nat) (t : Nat) (x : bt_X), v_W σ x → v_CI σ x → x.1 1 m 6 = nI t → (x.2.2 (4 + m)).drop t = os →
    v_CI σ (b_row σ m x os) ∧ v_W σ (b_row σ m x os) ∧ (b_row σ m x os).2.1 = x.2.1 ∧ (∀ n, n ≠ 2 → (b_row σ m x os).2.2 n = x.2.2 n) ∧
    ((b_row σ m x os = x ∧ ∀ i, (x.2.2 (4 + m))[t]? = some i → ¬ σ.1 2 i 1 = x.1 0 (i / 4) 4) ∨ (x.2.2 2).length < ((b_row σ m x os).2.2 2).length) := by
  intro os
  induction os with
  | nil =>
    intro t x hW hC ht hd
    refine ⟨hC, hW, rfl, fun _ _ => rfl, Or.inl ⟨rfl, fun i hi => ?_⟩⟩
    have := b_drop0 hd
    have := v_lt hi
    omega
  | cons i os ih =>
    intro t x hW hC ht hd
    obtain ⟨hi, hd1, htl⟩ := b_dropc hd
    unfold b_row
    by_cases c : σ.1 2 i 1 = x.1 0 (i / 4) 4
    · rw [if_pos c]
      obtain ⟨g1, g2⟩ := v_tick hS hO hW hC hm ht hi c
      obtain ⟨q1, q2, q3, q4, q5⟩ := ih (t + 1) (b_tick σ x m i) g2 g1 (by rw [v_t6, if_pos rfl, ht, nI_add]) (by rw [v_tl, if_neg (by omega)]; exact hd1)
      have el : ((b_tick σ x m i).2.2 2).length = (x.2.2 2).length + 1 := by rw [v_tl, if_pos rfl, List.length_append]; rfl
      refine ⟨q1, q2, q3, fun n hn => (q4 n hn).trans (by rw [v_tl, if_neg hn]), Or.inr ?_⟩
      rcases q5 with ⟨q5, -⟩ | q5
      · rw [q5]; omega
      · omega
    · rw [if_neg c]
      refine ⟨hC, hW, rfl, fun _ _ => rfl, Or.inl ⟨rfl, fun i' hi' => ?_⟩⟩
      rw [hi] at hi'
      cases hi'
      exact c
/-- nothing goes on -/
def v_stuck (σ x : bt_X) (L : List Nat) : Prop := ∀ m ∈ L, ∀ t i : Nat, x.1 1 m 6 = nI t → t ≤ (x.2.2 (4 + m)).length → (x.2.2 (4 + m))[t]? = some i → ¬ σ.1 2 i 1 = x.1 0 (i / 4) 4
theorem v_rows (hS : b_St σ) (hO : v_O σ) : ∀ (L : List Nat) (x : bt_X), (∀ m ∈ L, m < b_nm σ) → v_W σ x → v_CI σ x →
    v_CI σ (b_rows σ x L) ∧ v_W σ (b_rows σ x L) ∧ (b_rows σ x L).2.1 = x.2.1 ∧ (∀ n, n ≠ 2 → (b_rows σ x L).2.2 n = x.2.2 n) ∧
    ((b_rows σ x L = x ∧ v_stuck σ x L) ∨ (x.2.2 2).length < ((b_rows σ x L).2.2 2).length) := by
  intro L
  induction L with
  | nil => intro x _ hW hC; exact ⟨hC, hW, rfl, fun _ _ => rfl, Or.inl ⟨rfl, fun m hm => absurd hm List.not_mem_nil⟩⟩
  | cons m L ih =>
    intro x hL hW hC
    have hm := hL m List.mem_cons_self
    obtain ⟨t, ht, tl, -⟩ := hC.1 m hm
    have hlen := v_len hS hW hm
    have et : (x.1 1 m 6).toNatClampNeg = t := by rw [ht]; exact nI_clamp (by omega)
    obtain ⟨g1, g2, g3, g4, g5⟩ := v_row hS hO hm _ t x hW hC ht rfl
    obtain ⟨q1, q2, q3, q4, q5⟩ := ih (b_row σ m x ((x.2.2 (4 + m)).drop t)) (fun m' h' => hL m' (List.mem_cons_of_mem _ h')) g2 g1
    unfold b_rows
    rw [et]
    refine ⟨q1, q2, q3.trans g3, fun n hn => (q4 n hn).trans (g4 n hn), ?_⟩
    rcases g5 with ⟨g5, g6⟩ | g5
    · rw [g5] at q5 ⊢
      rcases q5 with ⟨q5, q6⟩ | q5
      · refine Or.inl ⟨q5, fun m' h' t' i h1 h2 h3 => ?_⟩
        rcases List.mem_cons.mp h' with rfl | h'
        · have : t' = t := (nI_eq (by omega) (by omega)).mp (h1.symm.trans ht)
          subst this
          exact g6 i h3
        · exact q6 m' h' t' i h1 h2 h3
      · exact Or.inr q5
    · refine Or.inr ?_
      rcases q5 with ⟨q5, -⟩ | q5
      · rw [q5]; exact g5
      · omega
theorem v_sub : ∀ (A B : List Nat), A.Nodup → (∀ a ∈ A, a ∈ B) → A.length ≤ B.length := by
  intro A
  induction A with
  | nil => intro B _ _; exact Nat.zero_le _
  | cons a A ih =>
    intro B hn hs
    rw [List.nodup_cons] at hn
    have ha := hs a List.mem_cons_self
    have h1 := ih (B.erase a) hn.2 (fun b hb => (List.mem_erase_of_ne (fun z => hn.1 (by rw [← z]; exact hb))).mpr (hs b (List.mem_cons_of_mem _ hb)))
    rw [List.length_erase_of_mem ha] at h1
    have h2 := List.length_pos_of_mem ha
    rw [List.length_cons]
    omega
def v_fl (x : bt_X) : List Nat → List Nat
  | [] => []
  | m :: L => x.2.2 (4 + m) ++ v_fl x L
theorem v_fl_len {x : bt_X} : ∀ L : List Nat, (v_fl x L).length = b_cnt x L := by
  intro L
  induction L with
  | nil => rfl
  | cons m L ih =>
    unfold v_fl b_cnt
    rw [List.length_append, ih]
theorem v_fl_mem {x : bt_X} {m i : Nat} : ∀ L : List Nat, m ∈ L → i ∈ x.2.2 (4 + m) → i ∈ v_fl x L := by
  intro L
  induction L with
  | nil => intro h; cases h
  | cons a L ih =>
    intro h hi
    unfold v_fl
    rw [List.mem_append]
    rcases List.mem_cons.mp h with rfl | h
    · exact Or.inl hi
    · exact Or.inr (ih h hi)
theorem v_mr (hS : b_St σ) {m : Nat} : m ∈ σ.2.2 0 ↔ m < b_nm σ := by rw [hS.1]; exact List.mem_range
theorem v_jr (hS : b_St σ) {j : Nat} : j ∈ σ.2.2 1 ↔ j < b_nj σ := by rw [hS.2.2.1]; exact List.mem_range
/-- so many at most -/
theorem v_CI_le (hS : b_St σ) {x : bt_X} (hC : v_CI σ x) : (x.2.2 2).length ≤ b_cnt x (σ.2.2 0) := by
  rw [← v_fl_len]
  refine v_sub _ _ hC.2.2.1 (fun a ha => ?_)
  obtain ⟨m, h1, h2⟩ := hC.2.2.2.1 a ha
  exact v_fl_mem _ ((v_mr hS).mpr h1) h2
theorem v_CI_full (hS : b_St σ) {x : bt_X} (hC : v_CI σ x) (h : (x.2.2 2).length = b_cnt x (σ.2.2 0)) {m i : Nat} (hm : m < b_nm σ) (hi : i ∈ x.2.2 (4 + m)) : i ∈ x.2.2 2 := by
  refine Decidable.byContradiction fun z => ?_
  have := v_sub (i :: x.2.2 2) (v_fl x (σ.2.2 0)) (List.nodup_cons.mpr ⟨z, hC.2.2.1⟩) (fun a ha => by
    rcases List.mem_cons.mp ha with rfl | ha
    · exact v_fl_mem _ ((v_mr hS).mpr hm) hi
    · obtain ⟨m', h1, h2⟩ := hC.2.2.2.1 a ha
      exact v_fl_mem _ ((v_mr hS).mpr h1) h2)
  rw [v_fl_len, List.length_cons] at this
  omega
/-- the end of finding times -/
def v_Fin (σ : bt_X) (r : Int32 × bt_X) : Prop := v_CI σ r.2 ∧ v_W σ r.2 ∧
  ((r.1 = nI 1 ∧ ∀ m, m < b_nm σ → ∀ i ∈ r.2.2.2 (4 + m), i ∈ r.2.2.2 2) ∨ (r.1 = nI 0 ∧ v_stuck σ r.2 (σ.2.2 0) ∧ ∃ m i, m < b_nm σ ∧ i ∈ r.2.2.2 (4 + m) ∧ i ∉ r.2.2.2 2))
theorem v_Fin_full (hS : b_St σ) {x : bt_X} {p : Nat} (hW : v_W σ x) (hC : v_CI σ x) (hp : p = b_cnt x (σ.2.2 0)) (h : p ≤ (x.2.2 2).length) : v_Fin σ (if (x.2.2 2).length = p then nI 1 else nI 0, x) := by
  have h1 := v_CI_le hS hC
  have e : (x.2.2 2).length = p := by omega
  refine ⟨hC, hW, Or.inl ⟨if_pos e, fun m hm i hi => v_CI_full hS hC (e.trans hp) hm hi⟩⟩
theorem v_rounds (hS : b_St σ) (hO : v_O σ) : ∀ (n p : Nat) (x : bt_X), v_W σ x → v_CI σ x → p = b_cnt x (σ.2.2 0) → p ≤ (x.2.2 2).length + n →
    v_Fin σ (b_rounds σ p n x) ∧ (b_rounds σ p n x).2.2.1 = x.2.1 ∧ ∀ k, k ≠ 2 → (b_rounds σ p n x).2.2.2 k = x.2.2 k := by
  intro n
  induction n with
  | zero =>
    intro p x hW hC hp h
    exact ⟨v_Fin_full hS hW hC hp (by omega), rfl, fun _ _ => rfl⟩
  | succ n ih =>
    intro p x hW hC hp h
    unfold b_rounds
    by_cases c : (x.2.2 2).length < p
    · rw [if_pos c]
      obtain ⟨q1, q2, q3, q4, q5⟩ := v_rows hS hO (σ.2.2 0) x (fun m hm => (v_mr hS).mp hm) hW hC
      by_cases d : ((b_rows σ x (σ.2.2 0)).2.2 2).length = (x.2.2 2).length
      · rw [if_pos d]
        rcases q5 with ⟨q5, q6⟩ | q5
        · rw [q5]
          refine ⟨⟨hC, hW, Or.inr ⟨rfl, q6, ?_⟩⟩, rfl, fun _ _ => rfl⟩
          refine Classical.byContradiction fun z => ?_
          have : b_cnt x (σ.2.2 0) ≤ (x.2.2 2).length := by
            rw [← v_fl_len]
            refine v_sub _ _ ?_ (fun a ha => ?_)
            · have key : ∀ L : List Nat, L.Nodup → (∀ m ∈ L, m < b_nm σ) → (v_fl x L).Nodup := by
                intro L
                induction L with
                | nil => intro _ _; exact List.nodup_nil
                | cons a L ihL =>
                  intro hn hL
                  rw [List.nodup_cons] at hn
                  unfold v_fl
                  refine List.nodup_append.mpr ⟨(hW.1 a (hL a List.mem_cons_self)).1, ihL hn.2 (fun m hm => hL m (List.mem_cons_of_mem _ hm)), fun u hu w hw => ?_⟩
                  intro z2
                  subst z2
                  have eu := ((hW.1 a (hL a List.mem_cons_self)).2 u hu).2
                  have key2 : ∀ L : List Nat, (∀ m ∈ L, m < b_nm σ) → u ∈ v_fl x L → ∃ m ∈ L, b_m σ u = m := by
                    intro L
                    induction L with
                    | nil => intro _ h; cases h
                    | cons b L ihL2 =>
                      intro hL h
                      unfold v_fl at h
                      rcases List.mem_append.mp h with h | h
                      · exact ⟨b, List.mem_cons_self, ((hW.1 b (hL b List.mem_cons_self)).2 u h).2⟩
                      · obtain ⟨m, h1, h2⟩ := ihL2 (fun m hm => hL m (List.mem_cons_of_mem _ hm)) h
                        exact ⟨m, List.mem_cons_of_mem _ h1, h2⟩
                  obtain ⟨m', h1, h2⟩ := key2 L (fun m hm => hL m (List.mem_cons_of_mem _ hm)) hw
                  rw [eu] at h2
                  exact hn.1 (by rw [h2]; exact h1)
              exact key _ hS.nd (fun m hm => (v_mr hS).mp hm)
            · have key : ∀ L : List Nat, (∀ m ∈ L, m < b_nm σ) → a ∈ v_fl x L → ∃ m, m < b_nm σ ∧ a ∈ x.2.2 (4 + m) := by
                intro L
                induction L with
                | nil => intro _ h; cases h
                | cons b L ihL =>
                  intro hL h
                  unfold v_fl at h
                  rcases List.mem_append.mp h with h | h
                  · exact ⟨b, hL b List.mem_cons_self, h⟩
                  · exact ihL (fun m hm => hL m (List.mem_cons_of_mem _ hm)) h
              obtain ⟨m, h1, h2⟩ := key _ (fun m hm => (v_mr hS).mp hm) ha
              exact Classical.byContradiction fun z2 => z ⟨m, a, h1, h2, z2⟩
          omega
        · omega
      · rw [if_neg d]
        have hlt : (x.2.2 2).length < ((b_rows σ x (σ.2.2 0)).2.2 2).length := by
          rcases q5 with ⟨q5, -⟩ | q5
          · rw [q5] at d; exact absurd rfl d
          · exact q5
        obtain ⟨k1, k2, k3⟩ := ih p (b_rows σ x (σ.2.2 0)) q2 q1 (by rw [hp]; exact (b_cnt_ext (fun m _ => by rw [q4 _ (by omega)])).symm) (by omega)
        exact ⟨k1, k2.trans q3, fun k hk => (k3 k hk).trans (q4 k hk)⟩
    · rw [if_neg c]
      exact ⟨v_Fin_full hS hW hC hp (by omega), rfl, fun _ _ => rfl⟩
theorem v_z0 {c i k : Nat} : ∀ (L : List Nat) (x : bt_X), ((c = 0 ∧ k = 4 ∧ i ∈ L) → (b_z0 x L).1 c i k = nI 0) ∧ (¬ (c = 0 ∧ k = 4 ∧ i ∈ L) → (b_z0 x L).1 c i k = x.1 c i k) := by
  intro L
  induction L with
  | nil => intro x; exact ⟨fun h => absurd h.2.2 List.not_mem_nil, fun _ => rfl⟩
  | cons j L ih =>
    intro x
    obtain ⟨g1, g2⟩ := ih (bt_gs x 0 j 4 (nI 0))
    refine ⟨fun h => ?_, fun h => ?_⟩
    · show (b_z0 (bt_gs x 0 j 4 (nI 0)) L).1 c i k = nI 0
      by_cases e : i ∈ L
      · exact g1 ⟨h.1, h.2.1, e⟩
      · rw [g2 (fun z => e z.2.2)]
        rcases List.mem_cons.mp h.2.2 with e2 | e2
        · obtain ⟨rfl, rfl, -⟩ := h
          subst e2
          exact b_gs_at
        · exact absurd e2 e
    · show (b_z0 (bt_gs x 0 j 4 (nI 0)) L).1 c i k = _
      rw [g2 (fun z => h ⟨z.1, z.2.1, List.mem_cons_of_mem _ z.2.2⟩), b_gs_ne (fun z => h ⟨z.1, z.2.2, by rw [z.2.1]; exact List.mem_cons_self⟩)]
theorem v_z1 {c i k : Nat} : ∀ (L : List Nat) (x : bt_X), ((c = 1 ∧ k = 6 ∧ i ∈ L) → (b_z1 x L).1 c i k = nI 0) ∧ (¬ (c = 1 ∧ k = 6 ∧ i ∈ L) → (b_z1 x L).1 c i k = x.1 c i k) := by
  intro L
  induction L with
  | nil => intro x; exact ⟨fun h => absurd h.2.2 List.not_mem_nil, fun _ => rfl⟩
  | cons j L ih =>
    intro x
    obtain ⟨g1, g2⟩ := ih (bt_gs x 1 j 6 (nI 0))
    refine ⟨fun h => ?_, fun h => ?_⟩
    · show (b_z1 (bt_gs x 1 j 6 (nI 0)) L).1 c i k = nI 0
      by_cases e : i ∈ L
      · exact g1 ⟨h.1, h.2.1, e⟩
      · rw [g2 (fun z => e z.2.2)]
        rcases List.mem_cons.mp h.2.2 with e2 | e2
        · obtain ⟨rfl, rfl, -⟩ := h
          subst e2
          exact b_gs_at
        · exact absurd e2 e
    · show (b_z1 (bt_gs x 1 j 6 (nI 0)) L).1 c i k = _
      rw [g2 (fun z => h ⟨z.1, z.2.1, List.mem_cons_of_mem _ z.2.2⟩), b_gs_ne (fun z => h ⟨z.1, z.2.2, by rw [z.2.1]; exact List.mem_cons_self⟩)]
theorem v_begin (hS : b_St σ) {x : bt_X} (hW : v_W σ x) : v_CI σ (b_begin σ x) ∧ v_W σ (b_begin σ x) := by
  have e2 : (b_begin σ x).2 = (bt_lp x 2 []).2 := b_begin_2
  have el : (b_begin σ x).2.2 2 = [] := by rw [e2]; exact bt_lp_at
  have er : ∀ m, (b_begin σ x).2.2 (4 + m) = x.2.2 (4 + m) := fun m => by rw [e2]; exact bt_lp_ne (by omega)
  refine ⟨⟨fun m hm => ⟨0, ?_, Nat.zero_le _, fun k i _ => ?_⟩, fun j hj => ⟨0, ?_, Nat.zero_le _, fun k _ => ?_⟩, ?_, fun i hi => ?_, fun n i hi => ?_, fun i hi => ?_, ?_⟩, v_W.ext hW (by rw [e2]; rfl) er⟩
  · exact (v_z1 _ _).1 ⟨rfl, rfl, (v_mr hS).mpr hm⟩
  · rw [el]; exact ⟨fun h => absurd h List.not_mem_nil, fun h => absurd h (by omega)⟩
  · unfold b_begin
    rw [(v_z1 _ _).2 (by omega)]
    exact (v_z0 _ _).1 ⟨rfl, rfl, (v_jr hS).mpr hj⟩
  · rw [el]; exact ⟨fun h => absurd h List.not_mem_nil, fun h => absurd h (by omega)⟩
  · rw [el]; exact List.nodup_nil
  · rw [el] at hi; cases hi
  · rw [el] at hi; cases hi
  · rw [el] at hi; cases hi
  · rw [el]
    unfold b_begin
    rw [(v_z1 _ _).2 (by omega), (v_z0 _ _).2 (by omega), bt_lp_1, b_gs_at]
    rfl
/-- all times -/
theorem v_all (hS : b_St σ) (hO : v_O σ) {x : bt_X} (hW : v_W σ x) : v_Fin σ (b_all σ x) ∧ (b_all σ x).2.2.1 = x.2.1 ∧ ∀ k, k ≠ 2 → (b_all σ x).2.2.2 k = x.2.2 k := by
  obtain ⟨g1, g2⟩ := v_begin hS hW
  have e2 : (b_begin σ x).2 = (bt_lp x 2 []).2 := b_begin_2
  have er : ∀ m, (b_begin σ x).2.2 (4 + m) = x.2.2 (4 + m) := fun m => by rw [e2]; exact bt_lp_ne (by omega)
  obtain ⟨q1, q2, q3⟩ := v_rounds hS hO 32 (b_cnt x (σ.2.2 0)) (b_begin σ x) g2 g1 (b_cnt_ext (fun m _ => by rw [er])).symm (by have := hW.2.2.2; omega)
  refine ⟨q1, q2.trans (by rw [e2]; rfl), fun k hk => (q3 k hk).trans (by rw [e2]; exact bt_lp_ne hk)⟩
end VROW

