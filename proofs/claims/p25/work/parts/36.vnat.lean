/-! ===== times as numbers from 0 on ===== -/
section VN
variable {σ x : bt_X}
theorem v_row_n {c i k m : Nat} (h : ¬ (c = 2 ∧ (k = 10 ∨ k = 11)) ∧ ¬ c = 4 ∧ ¬ (c = 1 ∧ k = 6) ∧ ¬ (c = 0 ∧ k = 4)) : ∀ (os : List Nat) (x : bt_X), (b_row σ m x os).1 c i k = x.1 c i k := by
  intro os
  induction os with
  | nil => intro x; rfl
  | cons o os ih =>
    intro x
    unfold b_row
    split
    · rw [ih]
      unfold b_tick b_put6 b_put5 b_one b_put4
      rw [b_gs_ne (by omega), b_gs_ne (by omega), bt_lp_1]
      unfold b_put3
      rw [b_gs_ne (by omega)]
      unfold b_put2
      rw [b_gs_ne (by omega)]
      unfold b_put1
      rw [b_gs_ne (by omega)]
    · rfl
theorem v_rows_n {c i k : Nat} (h : ¬ (c = 2 ∧ (k = 10 ∨ k = 11)) ∧ ¬ c = 4 ∧ ¬ (c = 1 ∧ k = 6) ∧ ¬ (c = 0 ∧ k = 4)) : ∀ (L : List Nat) (x : bt_X), (b_rows σ x L).1 c i k = x.1 c i k := by
  intro L
  induction L with
  | nil => intro x; rfl
  | cons o os ih =>
    intro x
    unfold b_rows
    rw [ih, v_row_n h]
theorem v_rounds_n {p c i k : Nat} (h : ¬ (c = 2 ∧ (k = 10 ∨ k = 11)) ∧ ¬ c = 4 ∧ ¬ (c = 1 ∧ k = 6) ∧ ¬ (c = 0 ∧ k = 4)) : ∀ (n : Nat) (x : bt_X), (b_rounds σ p n x).2.1 c i k = x.1 c i k := by
  intro n
  induction n with
  | zero => intro x; rfl
  | succ n ih =>
    intro x
    unfold b_rounds
    split
    · split
      · exact v_rows_n h _ _
      · rw [ih, v_rows_n h]
    · rfl
theorem v_all_n {c i k : Nat} (h : ¬ (c = 2 ∧ (k = 10 ∨ k = 11)) ∧ ¬ c = 4 ∧ ¬ (c = 1 ∧ k = 6) ∧ ¬ (c = 0 ∧ k = 4)) : (b_all σ x).2.1 c i k = x.1 c i k := by
  unfold b_all
  rw [v_rounds_n h]
  unfold b_begin
  rw [(v_z1 _ _).2 (by omega), (v_z0 _ _).2 (by omega), bt_lp_1, b_gs_ne (by omega)]
/-- a length, a set-up, the minutes of a breakdown -/
def v_ln (σ : bt_X) (i : Nat) : Nat := nN (σ.1 2 i 3)
def v_su (σ : bt_X) (f g : Nat) : Nat := nN (σ.1 8 (1 + f) g)
def v_bt (σ : bt_X) (a : Option Nat) (i : Nat) : Nat := match a with
  | none => v_su σ 0 (b_fn σ i)
  | some a => v_su σ (b_fn σ a) (b_fn σ i)
def v_lsN (σ : bt_X) (m r l : Nat) : Nat := if σ.1 1 m 3 = nI 0 then r else if nN (σ.1 1 m 5) ≤ r then r else if r + l ≤ nN (σ.1 1 m 4) then r else nN (σ.1 1 m 5)
theorem v_lnE (hO : v_O σ) {i : Nat} (h : v_op σ i) : σ.1 2 i 3 = nI (v_ln σ i) ∧ 1 ≤ v_ln σ i ∧ v_ln σ i ≤ 200 := by
  obtain ⟨-, -, -, -, -, ⟨l, h1, h2, h3⟩, -⟩ := hO i h
  unfold v_ln
  rw [h1, show nN (nI l) = l from nI_clamp (by omega)]
  exact ⟨rfl, h2, h3⟩
theorem v_suE (hS : v_S σ) {f g : Nat} (hf : f < 4) (hg : g < 4) : σ.1 8 (1 + f) g = nI (v_su σ f g) ∧ v_su σ f g ≤ 60 := by
  obtain ⟨s, h1, h2⟩ := hS f g hf hg
  unfold v_su
  rw [h1, show nN (nI s) = s from nI_clamp (by omega)]
  exact ⟨rfl, h2⟩
theorem v_btE (hO : v_O σ) (hS : v_S σ) {a : Option Nat} {i : Nat} (hi : v_op σ i) (ha : ∀ b, a = some b → v_op σ b) : b_bet σ a i = nI (v_bt σ a i) ∧ v_bt σ a i ≤ 60 := by
  have h1 := (hO i hi).2.1.2
  cases a with
  | none => exact v_suE hS (by decide) h1
  | some b => exact v_suE hS (hO b (ha b rfl)).2.1.2 h1
theorem v_lsE (hM : v_M σ) {m r l : Nat} (hm : m < b_nm σ) (hr : r < 1000000) (hl : l ≤ 200) : b_ls σ m (nI r) (nI l) = nI (v_lsN σ m r l) ∧ r ≤ v_lsN σ m r l ∧ v_lsN σ m r l ≤ max r 10000 := by
  obtain ⟨h1, h2⟩ := hM m hm
  unfold b_ls b_isB v_lsN
  by_cases c : σ.1 1 m 3 = nI 0
  · rw [if_pos (show σ.1 1 m 3 = 0 from c), if_pos (show nI 0 = 0 from rfl), if_pos c]
    exact ⟨rfl, Nat.le_refl _, Nat.le_max_left _ _⟩
  · obtain ⟨a, b, e4, e5, hab, hb⟩ := h2 c
    rw [if_neg (show ¬ σ.1 1 m 3 = 0 from c), if_neg c, e4, e5, show nN (nI a) = a from nI_clamp (by omega), show nN (nI b) = b from nI_clamp (by omega)]
    by_cases d : b ≤ r
    · rw [if_pos ((nI_leI (by omega) (by omega)).mpr d), if_pos (show nI 0 = 0 from rfl), if_pos d]
      exact ⟨rfl, Nat.le_refl _, Nat.le_max_left _ _⟩
    · rw [if_neg (fun z => d ((nI_leI (by omega) (by omega)).mp z)), if_neg d, nI_add]
      by_cases e : r + l ≤ a
      · rw [if_pos ((nI_leI (by omega) (by omega)).mpr e), if_pos (show nI 0 = 0 from rfl), if_pos e]
        exact ⟨rfl, Nat.le_refl _, Nat.le_max_left _ _⟩
      · rw [if_neg (fun z => e ((nI_leI (by omega) (by omega)).mp z)), if_neg (show ¬ nI 1 = 0 by decide), if_neg e]
        exact ⟨rfl, by omega, by omega⟩
/-- the finish of what is ahead -/
def v_fo (σ : bt_X) (S : Nat → Nat) (a : Option Nat) : Nat := match a with
  | none => 0
  | some a => S a + v_ln σ a
/-- ready, of starts S -/
def v_rN (σ : bt_X) (S : Nat → Nat) (am aj : Option Nat) (i : Nat) : Nat :=
  max (v_fo σ S am + v_bt σ am i) (v_fo σ S aj)
theorem v_rdyE (hO : v_O σ) (hS : v_S σ) {S : Nat → Nat} {i : Nat} (hi : v_op σ i) (ham : ∀ a, x.2.1 2 i 8 = some a → v_op σ a ∧ x.1 2 a 11 = nI (S a + v_ln σ a) ∧ S a < 800000) (haj : ∀ a, σ.2.1 2 i 6 = some a → v_op σ a ∧ x.1 2 a 11 = nI (S a + v_ln σ a) ∧ S a < 800000) :
    b_rdy σ x i = nI (v_rN σ S (x.2.1 2 i 8) (σ.2.1 2 i 6) i) := by
  obtain ⟨b1, b2⟩ := v_btE hO hS (a := x.2.1 2 i 8) hi (fun b hb => (ham b hb).1)
  have hf : b_free x (x.2.1 2 i 8) = nI (v_fo σ S (x.2.1 2 i 8)) ∧ v_fo σ S (x.2.1 2 i 8) < 900000 := by
    cases e : x.2.1 2 i 8 with
    | none => exact ⟨rfl, by show 0 < 900000; decide⟩
    | some a =>
      obtain ⟨g1, g2, g3⟩ := ham a e
      have := (v_lnE hO g1).2.2
      exact ⟨g2, by show S a + v_ln σ a < 900000; omega⟩
  unfold b_rdy v_rN
  rw [b1, hf.1, nI_add]
  generalize v_fo σ S (x.2.1 2 i 8) = u at hf ⊢
  cases e : σ.2.1 2 i 6 with
  | none =>
    show nI _ = nI (max _ 0)
    rw [Nat.max_eq_left (Nat.zero_le _)]
  | some a =>
    obtain ⟨g1, g2, g3⟩ := haj a e
    have g4 := (v_lnE hO g1).2.2
    show (if nI _ < x.1 2 a 11 then x.1 2 a 11 else nI _) = nI (max _ (S a + v_ln σ a))
    rw [g2]
    have h2 := hf.2
    by_cases c : u + v_bt σ (x.2.1 2 i 8) i < S a + v_ln σ a
    · rw [if_pos ((nI_ltI (by omega) (by omega)).mpr c), Nat.max_eq_right (by omega)]
    · rw [if_neg (fun z => c ((nI_ltI (by omega) (by omega)).mp z)), Nat.max_eq_left (by omega)]
/-- the start that is written -/
def v_s (x : bt_X) (i : Nat) : Nat := nN (x.1 2 i 10)
/-- what the times are -/
theorem v_sol (hSt : b_St σ) (hO : v_O σ) (hM : v_M σ) (hS : v_S σ) (hW : v_W σ x) (hC : v_CI σ x) : ∀ n i : Nat, (x.2.2 2)[n]? = some i →
    v_op σ i ∧ x.1 2 i 10 = nI (v_s x i) ∧ x.1 2 i 11 = nI (v_s x i + v_ln σ i) ∧ v_s x i ≤ 10000 + 260 * n ∧ v_s x i = v_lsN σ (b_m σ i) (v_rN σ (v_s x) (x.2.1 2 i 8) (σ.2.1 2 i 6) i) (v_ln σ i) := by
  have hL : (x.2.2 2).length ≤ 32 := Nat.le_trans (v_CI_le hSt hC) hW.2.2.2
  intro n
  induction n using Nat.strongRecOn with
  | ind n ih =>
    intro i hi
    obtain ⟨c1, c2, c3, c4, c5, c6, c7⟩ := hC
    have hmem := List.mem_of_getElem? hi
    obtain ⟨m, hm, him⟩ := c4 i hmem
    obtain ⟨hop, hbm⟩ := (hW.1 m hm).2 i him
    obtain ⟨e10, e11⟩ := c6 i hmem
    obtain ⟨l1, l2, l3⟩ := v_lnE hO hop
    have hn := v_lt hi
    have hp : ∀ a, σ.2.1 2 i 6 = some a ∨ x.2.1 2 i 8 = some a → v_op σ a ∧ x.1 2 a 11 = nI (v_s x a + v_ln σ a) ∧ v_s x a + 260 ≤ 10000 + 260 * n := fun a ha => by
      obtain ⟨n', q1, q2⟩ := c5 n i hi a ha
      obtain ⟨g1, -, g3, g4, -⟩ := ih n' q1 a q2
      exact ⟨g1, g3, by omega⟩
    have er := v_rdyE (S := v_s x) hO hS hop (fun a ha => by obtain ⟨g1, g2, g3⟩ := hp a (Or.inr ha); exact ⟨g1, g2, by omega⟩) (fun a ha => by obtain ⟨g1, g2, g3⟩ := hp a (Or.inl ha); exact ⟨g1, g2, by omega⟩)
    have hb := (v_btE hO hS (a := x.2.1 2 i 8) hop (fun b hb => (hp b (Or.inr hb)).1)).2
    have hr : v_rN σ (v_s x) (x.2.1 2 i 8) (σ.2.1 2 i 6) i ≤ 10000 + 260 * n := by
      unfold v_rN
      refine Nat.max_le.mpr ⟨?_, ?_⟩
      · cases e : x.2.1 2 i 8 with
        | none =>
          rw [e] at hb
          show 0 + v_bt σ none i ≤ _
          omega
        | some a =>
          rw [e] at hb
          obtain ⟨g1, g2, g3⟩ := hp a (Or.inr e)
          have := (v_lnE hO g1).2.2
          show v_s x a + v_ln σ a + v_bt σ (some a) i ≤ _
          omega
      · cases e : σ.2.1 2 i 6 with
        | none => exact Nat.zero_le _
        | some a =>
          obtain ⟨g1, g2, g3⟩ := hp a (Or.inl e)
          have := (v_lnE hO g1).2.2
          show v_s x a + v_ln σ a ≤ _
          omega
    rw [er, l1, hbm] at e10
    obtain ⟨k1, k2, k3⟩ := v_lsE hM (r := v_rN σ (v_s x) (x.2.1 2 i 8) (σ.2.1 2 i 6) i) (l := v_ln σ i) hm (by omega) l3
    rw [k1] at e10
    have es : v_s x i = v_lsN σ m (v_rN σ (v_s x) (x.2.1 2 i 8) (σ.2.1 2 i 6) i) (v_ln σ i) := by
      show nN (x.1 2 i 10) = _
      rw [e10]
      exact nI_clamp (by omega)
    refine ⟨hop, by rw [es]; exact e10, ?_, by rw [es]; omega, by rw [hbm]; exact es⟩
    rw [e11, e10, l1, nI_add, ← es]
end VN

