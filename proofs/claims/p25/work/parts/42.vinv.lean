/-! ===== what holds between calls ===== -/
section VI
variable {σ σ' x x' y : bt_X}
/-- an order without a way round -/
def v_To (σ y : bt_X) (L : List Nat) : Prop :=
  (∀ m, m < b_nm σ → ∀ i ∈ y.2.2 (4 + m), i ∈ L) ∧ (∀ i ∈ L, ∃ m, m < b_nm σ ∧ i ∈ y.2.2 (4 + m)) ∧
  (∀ n i : Nat, L[n]? = some i → ∀ a, σ.2.1 2 i 6 = some a ∨ y.2.1 2 i 8 = some a → ∃ n' : Nat, n' < n ∧ L[n']? = some a)
def v_full (σ y : bt_X) : Prop := ∀ m, m < b_nm σ → ∀ i ∈ y.2.2 (4 + m), i ∈ y.2.2 2
/-- what is ahead ranks below -/
def v_Rk (σ y : bt_X) (r : Nat → Nat) : Prop := ∀ m, m < b_nm σ → ∀ i ∈ y.2.2 (4 + m), ∀ a, σ.2.1 2 i 6 = some a ∨ y.2.1 2 i 8 = some a → r a < r i ∧ ∃ m', m' < b_nm σ ∧ a ∈ y.2.2 (4 + m')
theorem v_To_Rk {L : List Nat} (h : v_To σ y L) : v_Rk σ y (fun i => L.idxOf i) := by
  obtain ⟨l1, l2, l3⟩ := h
  intro m hm i hi a ha
  have hiL := l1 m hm i hi
  have hlt := List.idxOf_lt_length_of_mem hiL
  have hg : L[L.idxOf i]? = some i := by rw [List.getElem?_eq_getElem hlt, List.getElem_idxOf]
  obtain ⟨n', q1, q2⟩ := l3 _ i hg a ha
  refine ⟨?_, l2 a (List.mem_of_getElem? q2)⟩
  have hn := v_lt q2
  refine Nat.lt_of_le_of_lt ?_ q1
  refine Nat.le_of_not_lt (fun z => ?_)
  have key : ∀ (L : List Nat) (n : Nat), n < L.idxOf a → L[n]? ≠ some a := by
    intro L
    induction L with
    | nil => intro n hn; simp at hn
    | cons b L ih =>
      intro n hn e
      rw [List.idxOf_cons] at hn
      by_cases c : b = a
      · subst c; simp at hn
      · have hbe : (b == a) = false := by simp [c]
        rw [hbe] at hn
        change n < List.idxOf a L + 1 at hn
        cases n with
        | zero => simp at e; exact c e
        | succ n => rw [List.getElem?_cons_succ] at e; exact ih n (by omega) e
  exact key L n' z q2
theorem v_nostuck2 (hO : v_O σ) (hW : v_W σ y) (hC : v_CI σ y) (hk : v_stuck σ y (σ.2.2 0)) (hSt : b_St σ) {r : Nat → Nat} (hT : v_Rk σ y r) : v_full σ y := by
  have key : ∀ n i m, r i = n → m < b_nm σ → i ∈ y.2.2 (4 + m) → i ∈ y.2.2 2 := by
    intro n
    induction n using Nat.strongRecOn with
    | ind n ih =>
      intro i m hn hm hi
      obtain ⟨k, hki⟩ := v_mem hi
      obtain ⟨hop, hbm⟩ := (hW.1 m hm).2 i hi
      have less : ∀ a, σ.2.1 2 i 6 = some a ∨ y.2.1 2 i 8 = some a → a ∈ y.2.2 2 := fun a ha => by
        obtain ⟨q1, m', q2, q3⟩ := hT m hm i hi a ha
        exact ih (r a) (by omega) a m' rfl q2 q3
      obtain ⟨t, ht, tl, hT⟩ := hC.1 m hm
      obtain ⟨c, hcj, hc4, hcT⟩ := hC.2.1 (i / 4) hop.1
      have ei : 4 * (i / 4) + i % 4 = i := by omega
      have hkt : k ≤ t := by
        rcases Nat.eq_zero_or_pos k with e | e
        · omega
        · have hkl := v_lt hki
          have ea : (y.2.2 (4 + m))[k - 1]? = some ((y.2.2 (4 + m))[k - 1]'(by omega)) := List.getElem?_eq_getElem (by omega)
          have hlk := (hW.2.1 m hm k i hki).1
          rw [if_neg (by omega), ea] at hlk
          have := (hT (k - 1) _ ea).mp (less _ (Or.inr hlk))
          omega
      rcases Nat.lt_or_ge k t with q | q
      · exact (hT k i hki).mpr q
      · have ek : k = t := by omega
        subst ek
        have hci : i % 4 ≤ c := by
          by_cases e : i % 4 = 0
          · omega
          · have ha : σ.2.1 2 i 6 = some (i - 1) := by rw [(hO i hop).2.2.2.1, if_neg e]
            have := (hcT (i % 4 - 1) (by omega)).mp (by rw [show 4 * (i / 4) + (i % 4 - 1) = i - 1 by omega]; exact less _ (Or.inl ha))
            omega
        rcases Nat.lt_or_ge (i % 4) c with q2 | q2
        · have := (hcT (i % 4) (by omega)).mpr q2
          rw [ei] at this
          exact this
        · exfalso
          refine hk m ((v_mr hSt).mpr hm) k i ht tl hki ?_
          rw [(hO i hop).2.2.1, hcj]
          congr 1
          omega
  exact fun m hm i hi => key _ i m rfl hm hi
/-- times anew, where there is no way round -/
theorem v_retime (hSt : b_St σ) (hO : v_O σ) (hW : v_W σ y) (hT : ∃ r, v_Rk σ y r) : (b_all σ y).1 = nI 1 ∧ v_CI σ (b_all σ y).2 ∧ v_W σ (b_all σ y).2 ∧ v_full σ (b_all σ y).2 := by
  obtain ⟨rk, hT⟩ := hT
  obtain ⟨⟨hC, hW2, hF⟩, e1, e2⟩ := v_all hSt hO hW
  generalize hr : b_all σ y = r at hC hW2 hF e1 e2 ⊢
  rcases hF with ⟨h1, hf⟩ | ⟨h0, hk, m, i, hm, hi, hni⟩
  · exact ⟨h1, hC, hW2, hf⟩
  · exfalso
    refine hni (v_nostuck2 hO hW2 hC hk hSt (r := rk) (fun m hm i hi a ha => ?_) m hm i hi)
    obtain ⟨q1, m', q2, q3⟩ := hT m hm i (by rw [e2 _ (by omega)] at hi; exact hi) a (by rw [e1] at ha; exact ha)
    exact ⟨q1, m', q2, by rw [e2 _ (by omega)]; exact q3⟩
theorem v_CI_To (hC : v_CI σ y) (hf : v_full σ y) : v_To σ y (y.2.2 2) := ⟨hf, hC.2.2.2.1, hC.2.2.2.2.1⟩
/-- jobs -/
def v_Jb (σ : bt_X) : Prop := ∀ j, j < b_nj σ → σ.1 0 j 0 = nI j ∧ (∃ d, σ.1 0 j 1 = nI d ∧ d ≤ 10000) ∧ (σ.1 0 j 3 = nI 0 ∨ (σ.1 0 j 3 = nI 1 ∧ b_np σ j ≠ 0))
/-- so many bits -/
def v_pc (s : Nat) : Nat := s % 2 + s / 2 % 2 + s / 4 % 2 + s / 8 % 2 + s / 16 % 2 + s / 32 % 2 + s / 64 % 2 + s / 128 % 2
/-- magazines -/
def v_Tl (σ : bt_X) : Prop := ∀ m, m < b_nm σ → ∃ c t, σ.1 1 m 1 = nI c ∧ 1 ≤ c ∧ c ≤ 8 ∧ σ.1 1 m 2 = nI t ∧ t ≤ c ∧ (∀ i, v_op σ i → b_m σ i = m → v_pc (nN (σ.1 2 i 5)) ≤ t) ∧ (t = 0 ∨ ∃ i, v_op σ i ∧ b_m σ i = m ∧ v_pc (nN (σ.1 2 i 5)) = t)
/-- placed is what stands in a row -/
def v_Pl (σ x : bt_X) : Prop := ∀ i, v_op σ i → ((∃ m, m < b_nm σ ∧ i ∈ x.2.2 (4 + m)) ↔ σ.1 0 (i / 4) 3 = nI 1)
/-- the class, between calls: what the shop is -/
def v_IS (σ : bt_X) : Prop := b_St σ ∧ v_O σ ∧ v_M σ ∧ v_S σ ∧ v_Jb σ ∧ v_Tl σ
/-- and what is placed -/
def v_IC (σ x : bt_X) : Prop := v_IS σ ∧ v_W σ x ∧ v_Lk σ x ∧ v_Pl σ x ∧ v_CI σ x ∧ v_full σ x
/-- the reference, between calls -/
def v_IR (σ : bt_X) : Prop := m_Nn σ ∧ m_K σ ∧ m_T σ ∧ (∀ m, b_nm σ ≤ m → m < 4 → σ.1 8 13 m = nI 0 ∧ σ.1 8 14 m = nI 0) ∧ (∀ j, b_nj σ ≤ j → j < 8 → σ.1 8 20 j = nI 0)
def v_Inv (σ x : bt_X) : Prop := v_IC σ x ∧ v_IR σ ∧ v_Rs σ ∧ v_Rd σ x x
/-- the class's part is the same -/
def v_cA (σ σ' : bt_X) : Prop := σ'.2 = σ.2 ∧ ∀ c i k, c < 6 ∨ (c = 8 ∧ i < 5) → σ'.1 c i k = σ.1 c i k
def v_cX (x x' : bt_X) : Prop := x'.2.1 = x.2.1 ∧ (∀ n, n ≠ 3 → x'.2.2 n = x.2.2 n) ∧ ∀ c i k, c < 6 → ¬ (c = 2 ∧ (k = 12 ∨ k = 13)) → x'.1 c i k = x.1 c i k
/-- the reference's part is the same -/
def v_rA (σ σ' : bt_X) : Prop := ∀ c i k, c = 6 ∨ (c = 8 ∧ 10 ≤ i) → σ'.1 c i k = σ.1 c i k
theorem v_cA.op (h : v_cA σ σ') {i : Nat} : v_op σ' i ↔ v_op σ i := by unfold v_op b_nj b_np; rw [h.1]
theorem v_cA.fn (h : v_cA σ σ') {i : Nat} : b_fn σ' i = b_fn σ i := by unfold b_fn; rw [h.2 2 i 4 (by omega)]
theorem v_cA.m (h : v_cA σ σ') {i : Nat} : b_m σ' i = b_m σ i := by unfold b_m; rw [h.1]
theorem v_cA.nm (h : v_cA σ σ') : b_nm σ' = b_nm σ := by unfold b_nm; rw [h.1]
theorem v_cA.nj (h : v_cA σ σ') : b_nj σ' = b_nj σ := by unfold b_nj; rw [h.1]
theorem v_cA.np (h : v_cA σ σ') {j : Nat} : b_np σ' j = b_np σ j := by unfold b_np; rw [h.1]
theorem v_IS.congr (h : v_IS σ) (hA : v_cA σ σ') : v_IS σ' := by
  obtain ⟨h1, h2, h3, h4, h5, h6⟩ := h
  have e2 := hA.1
  refine ⟨?_, fun i hi => ?_, fun m hm => ?_, fun f g hf hg => ?_, fun j hj => ?_, fun m hm => ?_⟩
  · unfold b_St b_nm b_nj b_np
    rw [e2]
    exact h1
  · have g := h2 i (hA.op.mp hi)
    rw [hA.fn, hA.nm, hA.np, hA.2 2 i 4 (by omega), hA.2 2 i 1 (by omega), hA.2 2 i 3 (by omega), hA.2 2 i 5 (by omega), e2]
    exact g
  · rw [hA.nm] at hm
    rw [hA.2 1 m 3 (by omega), hA.2 1 m 4 (by omega), hA.2 1 m 5 (by omega)]
    exact h3 m hm
  · rw [hA.2 8 _ g (by omega)]
    exact h4 f g hf hg
  · rw [hA.nj] at hj
    rw [hA.2 0 j 0 (by omega), hA.2 0 j 1 (by omega), hA.2 0 j 3 (by omega), hA.np]
    exact h5 j hj
  · rw [hA.nm] at hm
    obtain ⟨c, t, q1, q2, q3, q4, q5, q6, q7⟩ := h6 m hm
    refine ⟨c, t, by rw [hA.2 1 m 1 (by omega)]; exact q1, q2, q3, by rw [hA.2 1 m 2 (by omega)]; exact q4, q5, fun i hi hm2 => ?_, q7.imp id (fun q => ?_)⟩
    · rw [hA.2 2 i 5 (by omega)]
      exact q6 i (hA.op.mp hi) (by rw [← hA.m]; exact hm2)
    · obtain ⟨i, r1, r2, r3⟩ := q
      exact ⟨i, hA.op.mpr r1, by rw [hA.m]; exact r2, by rw [hA.2 2 i 5 (by omega)]; exact r3⟩
theorem v_W.congr (h : v_W σ x) (e : σ'.2 = σ.2) (e1 : x'.2.1 = x.2.1) (e2 : ∀ n, n ≠ 3 → x'.2.2 n = x.2.2 n) : v_W σ' x' := by
  have g := v_W.ext (y := x') h e1 (fun m => e2 _ (by omega))
  unfold v_W v_op b_nm b_nj b_np b_m at g ⊢
  rw [e]
  exact g
theorem v_cA.ls (h : v_cA σ σ') {m : Nat} {r l : Int32} : b_ls σ' m r l = b_ls σ m r l := by
  unfold b_ls b_isB
  rw [h.2 1 m 3 (by omega), h.2 1 m 4 (by omega), h.2 1 m 5 (by omega)]
theorem v_cA.bet (h : v_cA σ σ') (hO : v_O σ) {a : Option Nat} {i : Nat} (hi : v_op σ i) (ha : ∀ b, a = some b → v_op σ b) : b_bet σ' a i = b_bet σ a i := by
  unfold b_bet
  cases a with
  | none =>
    show σ'.1 8 (1 + 0) (b_fn σ' i) = σ.1 8 (1 + 0) (b_fn σ i)
    rw [h.fn, h.2 8 _ _ (by omega)]
  | some b =>
    show σ'.1 8 (1 + b_fn σ' b) (b_fn σ' i) = σ.1 8 (1 + b_fn σ b) (b_fn σ i)
    have := (hO b (ha b rfl)).2.1.2
    rw [h.fn, h.fn, h.2 8 _ _ (by omega)]
theorem v_CI.congr (h : v_CI σ x) (hO : v_O σ) (hW : v_W σ x) (hA : v_cA σ σ') (hX : v_cX x x') : v_CI σ' x' := by
  obtain ⟨c1, c2, c3, c4, c5, c6, c7⟩ := h
  obtain ⟨x1, x2, x3⟩ := hX
  have el : x'.2.2 2 = x.2.2 2 := x2 2 (by omega)
  have er : ∀ m, x'.2.2 (4 + m) = x.2.2 (4 + m) := fun m => x2 _ (by omega)
  refine ⟨fun m hm => ?_, fun j hj => ?_, by rw [el]; exact c3, fun i hi => ?_, fun n i hn a ha => ?_, fun i hi => ?_, ?_⟩
  · rw [hA.nm] at hm
    rw [x3 1 m 6 (by omega) (by omega), er, el]
    exact c1 m hm
  · rw [hA.nj] at hj
    rw [x3 0 j 4 (by omega) (by omega), el]
    exact c2 j hj
  · rw [el] at hi
    obtain ⟨m, q1, q2⟩ := c4 i hi
    exact ⟨m, by rw [hA.nm]; exact q1, by rw [er]; exact q2⟩
  · rw [el] at hn ⊢
    rw [hA.1, x1] at ha
    exact c5 n i hn a ha
  · rw [el] at hi
    obtain ⟨m, hm, him⟩ := c4 i hi
    obtain ⟨k, hk⟩ := v_mem him
    have hop := ((hW.1 m hm).2 i him).1
    obtain ⟨q1, q2⟩ := c6 i hi
    have erd : b_rdy σ' x' i = b_rdy σ x i := by
      unfold b_rdy
      rw [x1, hA.1]
      have e1 : b_free x' (x.2.1 2 i 8) = b_free x (x.2.1 2 i 8) := by
        cases e : x.2.1 2 i 8 with
        | none => rfl
        | some a => exact x3 2 a 11 (by omega) (by omega)
      have e3 : ((σ.2.1 2 i 6).map fun a => x'.1 2 a 11) = ((σ.2.1 2 i 6).map fun a => x.1 2 a 11) := by
        cases e : σ.2.1 2 i 6 with
        | none => rfl
        | some a => exact congrArg some (x3 2 a 11 (by omega) (by omega))
      rw [e1, e3, hA.bet hO hop (fun b hb => ?_)]
      rw [(hW.2.1 m hm k i hk).1] at hb
      split at hb
      · cases hb
      · exact ((hW.1 m hm).2 b (List.mem_of_getElem? hb)).1
    rw [x3 2 i 10 (by omega) (by omega), x3 2 i 11 (by omega) (by omega), hA.ls, hA.m, erd, hA.2 2 i 3 (by omega)]
    exact ⟨q1, q2⟩
  · rw [el, x3 4 0 5 (by omega) (by omega), c7]
    exact (v_mx_eq (x := x) (y := x') _ _ (fun i _ => x3 2 i 11 (by omega) (by omega))).symm
theorem v_IC.congr (h : v_IC σ x) (hA : v_cA σ σ') (hX : v_cX x x') : v_IC σ' x' := by
  obtain ⟨h1, h2, h3, h4, h5, h6⟩ := h
  have er : ∀ m, x'.2.2 (4 + m) = x.2.2 (4 + m) := fun m => hX.2.1 _ (by omega)
  refine ⟨h1.congr hA, h2.congr hA.1 hX.1 hX.2.1, fun i hi => ?_, fun i hi => ?_, h5.congr h1.2.1 h2 hA hX, fun m hm i hi => ?_⟩
  · rw [hX.1]
    obtain ⟨q1, q2⟩ := h3 i (hA.op.mp hi)
    exact ⟨fun a ha => hA.op.mpr (q1 a ha), fun a ha => hA.op.mpr (q2 a ha)⟩
  · rw [hA.2 0 _ 3 (by omega), ← h4 i (hA.op.mp hi), hA.nm]
    constructor
    · rintro ⟨m, q1, q2⟩
      exact ⟨m, q1, by rw [← er]; exact q2⟩
    · rintro ⟨m, q1, q2⟩
      exact ⟨m, q1, by rw [er]; exact q2⟩
  · rw [hX.2.1 2 (by omega)]
    rw [hA.nm] at hm
    rw [er] at hi
    exact h6 m hm i hi
theorem v_cA.refl : v_cA σ σ := ⟨rfl, fun _ _ _ _ => rfl⟩
theorem v_cX.refl : v_cX x x := ⟨rfl, fun _ _ => rfl, fun _ _ _ _ _ => rfl⟩
theorem v_cX.trans {x'' : bt_X} (h : v_cX x x') (g : v_cX x' x'') : v_cX x x'' := ⟨g.1.trans h.1, fun n hn => (g.2.1 n hn).trans (h.2.1 n hn), fun c i k hc hk => (g.2.2 c i k hc hk).trans (h.2.2 c i k hc hk)⟩
theorem v_rA.refl : v_rA σ σ := fun _ _ _ _ => rfl
theorem v_rA.trans {x'' : bt_X} (h : v_rA x x') (g : v_rA x' x'') : v_rA x x'' := fun c i k hc => (g c i k hc).trans (h c i k hc)
/-- the reference's part, where the class's counts stay -/
theorem v_IR.congr (h : v_IR σ) (hr : v_rA σ σ') (e1 : b_nm σ' = b_nm σ) (e2 : b_nj σ' = b_nj σ) : v_IR σ' := by
  obtain ⟨⟨h1, h2, h3⟩, h4, h5, h6, h7⟩ := h
  refine ⟨⟨by rw [hr 6 0 1 (by omega)]; exact h1, by rw [hr 6 0 7 (by omega)]; exact h2, fun j hj => by rw [hr 8 19 j (by omega)]; exact h3 j hj⟩, fun p hp => ?_, fun p hp => ?_, fun m q1 q2 => ?_, fun j q1 q2 => ?_⟩
  · rw [hr 8 21 p (by omega), hr 8 23 p (by omega)]; exact h4 p hp
  · rw [hr 8 24 p (by omega)]; exact h5 p hp
  · rw [e1] at q1
    rw [hr 8 13 m (by omega), hr 8 14 m (by omega)]; exact h6 m q1 q2
  · rw [e2] at q1
    rw [hr 8 20 j (by omega)]; exact h7 j q1 q2
end VI

