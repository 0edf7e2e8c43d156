/-! ===== the reference's starts are the class's ===== -/
section VT
variable {σ x y z : bt_X}
/-- what stays, in the reference and in the class -/
def v_Rs (σ : bt_X) : Prop := m_nm σ = b_nm σ ∧ m_nj σ = b_nj σ ∧ (∀ j, j < 8 → m_np σ j = if j < b_nj σ then b_np σ j else 0) ∧
  (∀ i, v_op σ i → m_mc σ i = b_m σ i ∧ σ.1 8 22 i = σ.1 2 i 3 ∧ m_fm σ i = b_fn σ i ∧ σ.1 8 24 i = σ.1 2 i 5) ∧
  (∀ m, m < b_nm σ → σ.1 8 12 m = σ.1 1 m 1 ∧ (σ.1 1 m 3 = nI 0 → σ.1 8 13 m = nI 0 ∧ σ.1 8 14 m = nI 0) ∧ (σ.1 1 m 3 ≠ nI 0 → σ.1 8 13 m = σ.1 1 m 4 ∧ σ.1 8 14 m = σ.1 1 m 5)) ∧
  (∀ f g, f < 4 → g < 4 → m_su σ f g = σ.1 8 (1 + f) g) ∧ (∀ j, j < b_nj σ → σ.1 8 18 j = σ.1 0 j 1 ∧ σ.1 8 20 j = σ.1 0 j 3)
/-- one start of the reference -/
theorem v_wt (hSt : b_St σ) (hO : v_O σ) (hM : v_M σ) (hS : v_S σ) (hRs : v_Rs σ) {S : Nat → Nat} {i : Nat} {am : Option Nat} (hi : v_op σ i) (hm : b_m σ i < b_nm σ)
    (e27 : m_opt (z.1 8 27 i) = am) (eb : m_bef z i = σ.2.1 2 i 6) (hp : ∀ a, am = some a ∨ σ.2.1 2 i 6 = some a → v_op σ a ∧ z.1 8 29 a = nI (S a) ∧ S a < 800000) :
    m_wt σ z i = nI (v_lsN σ (b_m σ i) (v_rN σ S am (σ.2.1 2 i 6) i) (v_ln σ i)) := by
  obtain ⟨-, -, -, ro, rm, rs, -⟩ := hRs
  obtain ⟨o1, o2, o3, o4⟩ := ro i hi
  obtain ⟨l1, l2, l3⟩ := v_lnE hO hi
  have hfi := (hO i hi).2.1.2
  have fin : ∀ a, am = some a ∨ σ.2.1 2 i 6 = some a → m_fin σ z a = nI (S a + v_ln σ a) ∧ S a + v_ln σ a < 900000 := fun a ha => by
    obtain ⟨g1, g2, g3⟩ := hp a ha
    obtain ⟨k1, k2, k3⟩ := v_lnE hO g1
    unfold m_fin
    rw [g2, (ro a g1).2.1, k1, nI_add]
    exact ⟨rfl, by omega⟩
  have hbt := (v_btE hO hS (a := am) hi (fun b hb => (hp b (Or.inl hb)).1))
  have efree : m_free σ z i = nI (v_fo σ S am + v_bt σ am i) ∧ v_fo σ S am + v_bt σ am i < 950000 := by
    unfold m_free
    rw [e27]
    cases am with
    | none =>
      show m_su σ 0 (m_fm σ i) = nI (0 + v_su σ 0 (b_fn σ i)) ∧ 0 + v_su σ 0 (b_fn σ i) < 950000
      rw [o3, rs 0 _ (by decide) hfi, Nat.zero_add]
      obtain ⟨q1, q2⟩ := v_suE hS (f := 0) (by decide) hfi
      exact ⟨q1, by omega⟩
    | some a =>
      obtain ⟨q1, q2⟩ := fin a (Or.inl rfl)
      have ga := (hp a (Or.inl rfl)).1
      have hfa := (hO a ga).2.1.2
      obtain ⟨q3, q4⟩ := v_suE hS hfa hfi
      show m_fin σ z a + m_su σ (m_fm σ a) (m_fm σ i) = nI (S a + v_ln σ a + v_su σ (b_fn σ a) (b_fn σ i)) ∧ S a + v_ln σ a + v_su σ (b_fn σ a) (b_fn σ i) < 950000
      rw [q1, o3, (ro a ga).2.2.1, rs _ _ hfa hfi, q3, nI_add]
      exact ⟨rfl, by omega⟩
  have erdy : m_rdy1 σ z i = nI (v_fo σ S (σ.2.1 2 i 6)) ∧ v_fo σ S (σ.2.1 2 i 6) < 900000 := by
    unfold m_rdy1
    rw [eb]
    cases e : σ.2.1 2 i 6 with
    | none => exact ⟨rfl, by show 0 < 900000; decide⟩
    | some b => exact fin b (Or.inr e)
  unfold m_wt m_wt2
  rw [efree.1, erdy.1]
  have h1 := efree.2
  have h2 := erdy.2
  show m_wt3 σ i _ = nI (v_lsN σ (b_m σ i) (max _ _) (v_ln σ i))
  generalize v_fo σ S am + v_bt σ am i = u at h1 ⊢
  generalize v_fo σ S (σ.2.1 2 i 6) = w at h2 ⊢
  have er : (if nI u ≤ nI w then nI w else nI u) = nI (max u w) := by
    by_cases c : u ≤ w
    · rw [if_pos ((nI_leI (by omega) (by omega)).mpr c), Nat.max_eq_right c]
    · rw [if_neg (fun q => c ((nI_leI (by omega) (by omega)).mp q)), Nat.max_eq_left (by omega)]
  rw [er]
  have hr : max u w < 950000 := Nat.max_lt.mpr ⟨h1, by omega⟩
  generalize max u w = r at hr ⊢
  obtain ⟨-, q0, q1⟩ := rm _ hm
  obtain ⟨v1, v2⟩ := hM _ hm
  unfold m_wt3 v_lsN
  rw [o1, o2, l1]
  by_cases c : σ.1 1 (b_m σ i) 3 = nI 0
  · obtain ⟨q2, q3⟩ := q0 c
    rw [q3, if_pos (nI_leI (by omega) (by omega) |>.mpr (Nat.zero_le r)), if_pos c]
  · obtain ⟨q2, q3⟩ := q1 c
    obtain ⟨a, b, e4, e5, hab, hb⟩ := v2 c
    rw [q2, q3, if_neg c, e4, e5, show nN (nI a) = a from nI_clamp (by omega), show nN (nI b) = b from nI_clamp (by omega)]
    by_cases d : b ≤ r
    · rw [if_pos ((nI_leI (by omega) (by omega)).mpr d), if_pos d]
    · rw [if_neg (fun q => d ((nI_leI (by omega) (by omega)).mp q)), if_neg d, nI_add]
      by_cases e : r + v_ln σ i ≤ a
      · rw [if_pos ((nI_leI (by omega) (by omega)).mpr e), if_pos e]
      · rw [if_neg (fun q => e ((nI_leI (by omega) (by omega)).mp q)), if_neg e]
/-- an order of all that is placed, and starts that follow from it -/
def v_So (σ y : bt_X) (L : List Nat) (S : Nat → Nat) : Prop :=
  (∀ m, m < b_nm σ → ∀ i ∈ y.2.2 (4 + m), i ∈ L) ∧ (∀ i ∈ L, ∃ m, m < b_nm σ ∧ i ∈ y.2.2 (4 + m)) ∧
  (∀ n i : Nat, L[n]? = some i → ∀ a, σ.2.1 2 i 6 = some a ∨ y.2.1 2 i 8 = some a → ∃ n' : Nat, n' < n ∧ L[n']? = some a) ∧ L.Nodup ∧ L.length ≤ 32 ∧
  ∀ i ∈ L, S i = v_lsN σ (b_m σ i) (v_rN σ S (y.2.1 2 i 8) (σ.2.1 2 i 6) i) (v_ln σ i) ∧ S i ≤ 18320
/-- the links that the reference has laid -/
def v_Zl (σ x z : bt_X) : Prop := ∀ i k, 26 ≤ i ∧ i ≤ 28 → z.1 8 i k = (m_lays σ x).1 8 i k
theorem v_Zl_row (hSt : b_St σ) (hO : v_O σ) (hW : v_W σ y) (hR : v_Rd σ y x) (hRs : v_Rs σ) (hZ : v_Zl σ x z) {m i : Nat} (hm : m < b_nm σ) (hi : i ∈ y.2.2 (4 + m)) :
    ¬ z.1 8 26 i = 0 ∧ m_opt (z.1 8 27 i) = y.2.1 2 i 8 ∧ m_bef z i = σ.2.1 2 i 6 ∧ m_opt (z.1 8 28 i) = y.2.1 2 i 9 := by
  obtain ⟨k, hk⟩ := v_mem hi
  obtain ⟨g1, g2, g3⟩ := v_lays_in hSt hW hR hRs.1 hm hk
  obtain ⟨w8, w9⟩ := hW.2.1 m hm k i hk
  rw [hZ 26 i (by omega), hZ 27 i (by omega), hZ 28 i (by omega), g1, g2, g3, w8, w9]
  refine ⟨by decide, rfl, ?_, rfl⟩
  have hop := ((hW.1 m hm).2 i hi).1
  rw [(hO i hop).2.2.2.1]
  unfold m_bef
  by_cases c : i % 4 = 0
  · rw [if_pos c, if_pos c]
  · rw [if_neg c, if_neg c]
    obtain ⟨m', hm', h'⟩ := hW.2.2.1 m hm i hi c
    obtain ⟨k', hk'⟩ := v_mem h'
    rw [hZ 26 _ (by omega), (v_lays_in hSt hW hR hRs.1 hm' hk').1, if_neg (show ¬ nI 1 = 0 by decide)]
/-- as far as that the order is settled -/
def v_pre (L : List Nat) (S : Nat → Nat) (r : Nat) (z : bt_X) : Prop := ∀ n i : Nat, n < r → L[n]? = some i → z.1 8 29 i = nI (S i)
theorem v_its (hSt : b_St σ) (hO : v_O σ) (hM : v_M σ) (hS : v_S σ) (hRs : v_Rs σ) (hW : v_W σ y) (hR : v_Rd σ y x) {L : List Nat} {S : Nat → Nat} (hL : v_So σ y L S) (hZ : v_Zl σ x z) {r i : Nat} (hp : v_pre L S r z) {n : Nat} (hn : n ≤ r) (hi : L[n]? = some i) :
    m_its σ z i = nI (S i) := by
  obtain ⟨l1, l2, l3, l4, l5, l6⟩ := hL
  have hmem := List.mem_of_getElem? hi
  obtain ⟨m, hm, him⟩ := l2 i hmem
  obtain ⟨q1, q2, q3, -⟩ := v_Zl_row hSt hO hW hR hRs hZ hm him
  obtain ⟨hop, hbm⟩ := (hW.1 m hm).2 i him
  unfold m_its
  rw [if_neg q1, v_wt hSt hO hM hS hRs (S := S) hop (by rw [hbm]; exact hm) q2 q3 (fun a ha => by
    obtain ⟨n', h1, h2⟩ := l3 n i hi a ha.symm
    obtain ⟨m', hm', h'⟩ := l2 a (List.mem_of_getElem? h2)
    exact ⟨((hW.1 m' hm').2 a h').1, hp n' a (by omega) h2, by have := (l6 a (List.mem_of_getElem? h2)).2; omega⟩), ← (l6 i hmem).1]
/-- a round settles one more -/
theorem v_rd (hSt : b_St σ) (hO : v_O σ) (hM : v_M σ) (hS : v_S σ) (hRs : v_Rs σ) (hW : v_W σ y) (hR : v_Rd σ y x) {L : List Nat} {S : Nat → Nat} (hL : v_So σ y L S) {r : Nat} : ∀ (n p : Nat) (ch : Int32) (z : bt_X), n + p = 32 → v_Zl σ x z → v_pre L S r z → (∀ i, L[r]? = some i → i < p → z.1 8 29 i = nI (S i)) →
    v_pre L S (r + 1) (m_rd σ n p ch z).2 := by
  intro n
  induction n with
  | zero =>
    intro p ch z hp hZ hpr hr k i hk hi
    rcases Nat.lt_or_ge k r with c | c
    · exact hpr k i c hi
    · have : k = r := by omega
      subst this
      obtain ⟨m, hm, him⟩ := hL.2.1 i (List.mem_of_getElem? hi)
      exact hr i hi (by have := v_op32 hSt ((hW.1 m hm).2 i him).1; omega)
  | succ n ih =>
    intro p ch z hp hZ hpr hr
    unfold m_rd
    refine ih (p + 1) _ _ (by omega) (fun i k hi => by rw [b_gs_ne (by omega)]; exact hZ i k hi) (fun k i hk hi => ?_) (fun i hi hip => ?_)
    · by_cases e : i = p
      · subst e
        rw [b_gs_at]
        exact v_its hSt hO hM hS hRs hW hR hL hZ hpr (by omega) hi
      · rw [b_gs_ne (by omega)]
        exact hpr k i hk hi
    · by_cases e : i = p
      · subst e
        rw [b_gs_at]
        exact v_its hSt hO hM hS hRs hW hR hL hZ hpr (Nat.le_refl _) hi
      · rw [b_gs_ne (by omega)]
        exact hr i hi (by omega)
theorem m_chg_0 {ch v w : Int32} (h : m_chg ch v w = 0) : ch = 0 ∧ v = w := by
  unfold m_chg at h
  by_cases c : ch = 0
  · rw [if_pos c] at h
    by_cases d : v = w
    · exact ⟨c, d⟩
    · rw [if_neg d] at h; exact absurd h (by decide)
  · rw [if_neg c] at h; exact absurd h (by decide)
/-- what was a change stays one -/
theorem m_rd_ch : ∀ (n p : Nat) (ch : Int32) (z : bt_X), (m_rd σ n p ch z).1 = 0 → ch = 0 := by
  intro n
  induction n with
  | zero => intro p ch z h; exact h
  | succ n ih =>
    intro p ch z h
    unfold m_rd at h
    exact (m_chg_0 (ih _ _ _ h)).1
theorem b_gs_id {x : bt_X} {c i k : Nat} {v : Int32} (h : x.1 c i k = v) : bt_gs x c i k v = x := by
  unfold bt_gs
  have : (fun c' i' k' => if c' = c ∧ i' = i ∧ k' = k then v else x.1 c' i' k') = x.1 := by
    funext c' i' k'
    split
    · rename_i e
      obtain ⟨rfl, rfl, rfl⟩ := e
      exact h.symm
    · rfl
  rw [this]
/-- no change: nothing is changed, and all starts are what they ask for -/
theorem m_rd_0 : ∀ (n p : Nat) (ch : Int32) (z : bt_X), (m_rd σ n p ch z).1 = 0 → (m_rd σ n p ch z).2 = z ∧ ∀ q, p ≤ q → q < p + n → z.1 8 29 q = m_its σ z q := by
  intro n
  induction n with
  | zero => intro p ch z _; exact ⟨rfl, fun q h1 h2 => by omega⟩
  | succ n ih =>
    intro p ch z h
    unfold m_rd at h ⊢
    have e := (m_chg_0 (m_rd_ch _ _ _ _ h)).2
    have ez : bt_gs z 8 29 p (m_its σ z p) = z := b_gs_id e.symm
    rw [ez] at h ⊢
    obtain ⟨g1, g2⟩ := ih (p + 1) _ z h
    refine ⟨g1, fun q h1 h2 => ?_⟩
    rcases Nat.lt_or_ge p q with c | c
    · exact g2 q (by omega) (by omega)
    · have : q = p := by omega
      subst this
      exact e.symm
/-- all is settled: no change -/
theorem v_rd_all (hSt : b_St σ) (hO : v_O σ) (hM : v_M σ) (hS : v_S σ) (hRs : v_Rs σ) (hW : v_W σ y) (hR : v_Rd σ y x) {L : List Nat} {S : Nat → Nat} (hL : v_So σ y L S) {r : Nat} (hr : L.length ≤ r) (hZ : v_Zl σ x z) (hp : v_pre L S r z) (h0 : ∀ i, i < 32 → i ∉ L → z.1 8 29 i = nI 0) : ∀ n p : Nat, n + p = 32 → m_rd σ n p (nI 0) z = (nI 0, z) := by
  intro n
  induction n with
  | zero => intro p _; rfl
  | succ n ih =>
    intro p hp2
    unfold m_rd
    have e : m_its σ z p = z.1 8 29 p := by
      by_cases c : p ∈ L
      · obtain ⟨k, hk⟩ := v_mem c
        rw [v_its hSt hO hM hS hRs hW hR hL hZ hp (n := k) (by have := v_lt hk; omega) hk]
        exact (hp k p (by have := v_lt hk; omega) hk).symm
      · unfold m_its
        rw [if_pos, h0 p (by omega) c]
        rw [hZ 26 p (by omega)]
        exact v_lays_out hSt hR hRs.1 (by omega) (fun m hm him => c (hL.1 m hm p him))
    rw [m_chg_b (ch := nI 0) rfl e, b_gs_id e.symm]
    exact ih (p + 1) (by omega)
theorem v_rd_out (hSt : b_St σ) (hR : v_Rd σ y x) (hRs : v_Rs σ) {L : List Nat} (hL : ∀ m, m < b_nm σ → ∀ i ∈ y.2.2 (4 + m), i ∈ L) {i : Nat} (hi : i < 32) (hiL : i ∉ L) : ∀ (n p : Nat) (ch : Int32) (z : bt_X), n + p = 32 → v_Zl σ x z → z.1 8 29 i = nI 0 → (m_rd σ n p ch z).2.1 8 29 i = nI 0 := by
  intro n
  induction n with
  | zero => intro p ch z _ _ h; exact h
  | succ n ih =>
    intro p ch z hp hZ h
    unfold m_rd
    refine ih (p + 1) _ _ (by omega) (fun i k hi => by rw [b_gs_ne (by omega)]; exact hZ i k hi) ?_
    by_cases e : i = p
    · subst e
      rw [b_gs_at]
      unfold m_its
      rw [if_pos]
      rw [hZ 26 i (by omega)]
      exact v_lays_out hSt hR hRs.1 hi (fun m hm him => hiL (hL m hm i him))
    · rw [b_gs_ne (by omega)]
      exact h
theorem v_Zl_rd {n p : Nat} {ch : Int32} (hZ : v_Zl σ x z) : v_Zl σ x (m_rd σ n p ch z).2 := fun i k hi => by rw [m_rd_n (by omega)]; exact hZ i k hi
/-- no way round: the reference finds the same starts -/
theorem v_wkL (hSt : b_St σ) (hO : v_O σ) (hM : v_M σ) (hS : v_S σ) (hRs : v_Rs σ) (hW : v_W σ y) (hR : v_Rd σ y x) {L : List Nat} {S : Nat → Nat} (hL : v_So σ y L S) : ∀ (n r : Nat) (ch : Int32) (z : bt_X), n + r = 33 → v_Zl σ x z → v_pre L S r z → (∀ i, i < 32 → i ∉ L → z.1 8 29 i = nI 0) → (ch = 0 → v_pre L S 33 z) → (L.length < r → ch = 0) →
    (m_wkL σ n ch z).1 = 0 ∧ v_pre L S 33 (m_wkL σ n ch z).2 := by
  intro n
  induction n with
  | zero =>
    intro r ch z hr hZ hp h0 h1 h2
    have hl := hL.2.2.2.2.1
    have hc := h2 (by omega)
    exact ⟨hc, h1 hc⟩
  | succ n ih =>
    intro r ch z hr hZ hp h0 h1 h2
    unfold m_wkL
    by_cases c : ch = 0
    · rw [if_pos c]
      exact ⟨c, h1 c⟩
    · rw [if_neg c]
      have hl : ¬ L.length < r := fun q => c (h2 q)
      refine ih (r + 1) _ _ (by omega) (v_Zl_rd hZ) (v_rd hSt hO hM hS hRs hW hR hL m_32 0 (nI 0) z m_32_e hZ hp (fun i _ q => absurd q (Nat.not_lt_zero _))) (fun i hi hiL => v_rd_out hSt hR hRs hL.1 hi hiL m_32 0 (nI 0) z m_32_e hZ (h0 i hi hiL)) (fun hc => ?_) (fun hlt => ?_)
      · obtain ⟨g1, g2⟩ := m_rd_0 m_32 0 (nI 0) z hc
        rw [g1]
        have key : ∀ k, v_pre L S k z := by
          intro k
          induction k with
          | zero => intro n i hn; omega
          | succ k ihk =>
            intro n i hn hi
            rcases Nat.lt_or_ge n k with q | q
            · exact ihk n i q hi
            · have : n = k := by omega
              subst this
              obtain ⟨m, hm, him⟩ := hL.2.1 i (List.mem_of_getElem? hi)
              have h32 := v_op32 hSt ((hW.1 m hm).2 i him).1
              rw [g2 i (Nat.zero_le _) (by rw [m_32_e]; omega)]
              exact v_its hSt hO hM hS hRs hW hR hL hZ ihk (Nat.le_refl _) hi
        exact key 33
      · have e := v_rd_all hSt hO hM hS hRs hW hR hL (r := r) (by omega) hZ hp h0 m_32 0 m_32_e
        rw [e]
        rfl
theorem v_works (hSt : b_St σ) (hO : v_O σ) (hM : v_M σ) (hS : v_S σ) (hRs : v_Rs σ) (hW : v_W σ y) (hR : v_Rd σ y x) {L : List Nat} {S : Nat → Nat} (hL : v_So σ y L S) :
    m_wOk σ x = nI 1 ∧ ∀ i ∈ L, (m_wS σ x).1 8 29 i = nI (S i) := by
  obtain ⟨g1, g2⟩ := v_wkL hSt hO hM hS hRs hW hR hL m_33 0 (nI 1) (m_lays σ x) m_33_e (fun _ _ _ => rfl) (fun n i hn => by omega) (fun i hi _ => v_lays_29 hi) (fun h => absurd h (by decide)) (fun h => by omega)
  unfold m_wOk m_wS m_wk
  refine ⟨if_pos g1, fun i hi => ?_⟩
  obtain ⟨n, hn⟩ := v_mem hi
  exact g2 n i (by have := v_lt hn; have := hL.2.2.2.2.1; omega) hn
end VT

