/-! ===== the reference and the class find the same ===== -/
section VU
variable {σ x y z : bt_X}
/-- all starts of the reference are numbers up to b -/
def v_bd (z : bt_X) (b : Nat) : Prop := ∀ q, q < 32 → z.1 8 29 q = nI (nN (z.1 8 29 q)) ∧ nN (z.1 8 29 q) ≤ b
theorem v_bd.mono {b c : Nat} (h : v_bd z b) (hb : b ≤ c) : v_bd z c := fun q hq => ⟨(h q hq).1, Nat.le_trans (h q hq).2 hb⟩
/-- the start that the reference has -/
def v_r (z : bt_X) (i : Nat) : Nat := nN (z.1 8 29 i)
theorem v_rNle (hO : v_O σ) (hS : v_S σ) {S : Nat → Nat} {am aj : Option Nat} {i b : Nat} (hi : v_op σ i) (h : ∀ a, am = some a ∨ aj = some a → v_op σ a ∧ S a ≤ b) : v_rN σ S am aj i ≤ b + 260 := by
  have h1 := (v_btE hO hS (a := am) hi (fun c hc => (h c (Or.inl hc)).1)).2
  have fo : ∀ a : Option Nat, (∀ c, a = some c → v_op σ c ∧ S c ≤ b) → v_fo σ S a ≤ b + 200 := fun a ha => by
    cases a with
    | none => exact Nat.zero_le _
    | some c =>
      obtain ⟨g1, g2⟩ := ha c rfl
      have := (v_lnE hO g1).2.2
      show S c + v_ln σ c ≤ _
      omega
  have h2 := fo am (fun c hc => h c (Or.inl hc))
  have h3 := fo aj (fun c hc => h c (Or.inr hc))
  unfold v_rN
  omega
theorem v_lsN_le (hM : v_M σ) {m r l : Nat} (hm : m < b_nm σ) : r ≤ v_lsN σ m r l ∧ v_lsN σ m r l ≤ max r 10000 := by
  obtain ⟨h1, h2⟩ := hM m hm
  unfold v_lsN
  by_cases c : σ.1 1 m 3 = nI 0
  · rw [if_pos c]; exact ⟨Nat.le_refl _, Nat.le_max_left _ _⟩
  · obtain ⟨a, b, e4, e5, hab, hb⟩ := h2 c
    rw [if_neg c, e4, e5, show nN (nI a) = a from nI_clamp (by omega), show nN (nI b) = b from nI_clamp (by omega)]
    split
    · exact ⟨Nat.le_refl _, Nat.le_max_left _ _⟩
    · split
      · exact ⟨Nat.le_refl _, Nat.le_max_left _ _⟩
      · exact ⟨by omega, by omega⟩
theorem v_itsB (hSt : b_St σ) (hO : v_O σ) (hM : v_M σ) (hS : v_S σ) (hRs : v_Rs σ) (hW : v_W σ y) (hR : v_Rd σ y x) (hZ : v_Zl σ x z) {b : Nat} (hb : v_bd z b) (hb2 : b < 790000) {i m : Nat} (hm : m < b_nm σ) (hi : i ∈ y.2.2 (4 + m)) :
    m_its σ z i = nI (v_lsN σ (b_m σ i) (v_rN σ (v_r z) (y.2.1 2 i 8) (σ.2.1 2 i 6) i) (v_ln σ i)) ∧ v_rN σ (v_r z) (y.2.1 2 i 8) (σ.2.1 2 i 6) i ≤ b + 260 := by
  obtain ⟨q1, q2, q3, -⟩ := v_Zl_row hSt hO hW hR hRs hZ hm hi
  obtain ⟨hop, hbm⟩ := (hW.1 m hm).2 i hi
  obtain ⟨k, hk⟩ := v_mem hi
  have hp : ∀ a, y.2.1 2 i 8 = some a ∨ σ.2.1 2 i 6 = some a → v_op σ a ∧ z.1 8 29 a = nI (v_r z a) ∧ v_r z a ≤ b := fun a ha => by
    have hop2 : v_op σ a := by
      rcases ha with ha | ha
      · rw [(hW.2.1 m hm k i hk).1] at ha
        split at ha
        · cases ha
        · exact ((hW.1 m hm).2 a (List.mem_of_getElem? ha)).1
      · rw [(hO i hop).2.2.2.1] at ha
        split at ha
        · cases ha
        · rename_i c
          cases ha
          obtain ⟨m', hm', h'⟩ := hW.2.2.1 m hm i hi c
          exact ((hW.1 m' hm').2 _ h').1
    exact ⟨hop2, hb a (v_op32 hSt hop2)⟩
  unfold m_its
  rw [if_neg q1, v_wt hSt hO hM hS hRs (S := v_r z) hop (by rw [hbm]; exact hm) q2 q3 (fun a ha => by obtain ⟨g1, g2, g3⟩ := hp a ha; exact ⟨g1, g2, by omega⟩)]
  exact ⟨rfl, v_rNle hO hS hop (fun a ha => by obtain ⟨g1, g2, g3⟩ := hp a ha; exact ⟨g1, g3⟩)⟩
theorem v_out0 (hSt : b_St σ) (hR : v_Rd σ y x) (hRs : v_Rs σ) (hZ : v_Zl σ x z) {i : Nat} (hi : i < 32) (h : ∀ m, m < b_nm σ → i ∉ y.2.2 (4 + m)) : m_its σ z i = nI 0 := by
  unfold m_its
  rw [if_pos]
  rw [hZ 26 i (by omega)]
  exact v_lays_out hSt hR hRs.1 hi h
set_option maxRecDepth 100000 in
theorem v_rd_bd (hSt : b_St σ) (hO : v_O σ) (hM : v_M σ) (hS : v_S σ) (hRs : v_Rs σ) (hW : v_W σ y) (hR : v_Rd σ y x) : ∀ (n p : Nat) (ch : Int32) (z : bt_X) (b : Nat), n + p = 32 → v_Zl σ x z → v_bd z b → 10000 ≤ b → b + 260 * n ≤ 700000 → v_bd (m_rd σ n p ch z).2 (b + 260 * n) := by
  intro n
  induction n with
  | zero => intro p ch z b _ _ h _ _; exact h
  | succ n ih =>
    intro p ch z b hp hZ h hb hb2
    unfold m_rd
    have e : b + 260 * (n + 1) = b + 260 + 260 * n := by omega
    rw [e]
    refine ih (p + 1) _ _ (b + 260) (by omega) (fun i k hi => by rw [b_gs_ne (by omega)]; exact hZ i k hi) (fun q hq => ?_) (by omega) (by omega)
    by_cases c : q = p
    · subst c
      rw [b_gs_at]
      by_cases d : ∃ m, m < b_nm σ ∧ q ∈ y.2.2 (4 + m)
      · obtain ⟨m, hm, hi⟩ := d
        obtain ⟨g1, g2⟩ := v_itsB hSt hO hM hS hRs hW hR hZ h (by omega) hm hi
        obtain ⟨hop, hbm⟩ := (hW.1 m hm).2 q hi
        rw [g1]
        obtain ⟨k1, k2⟩ := v_lsN_le (m := b_m σ q) (r := v_rN σ (v_r z) (y.2.1 2 q 8) (σ.2.1 2 q 6) q) (l := v_ln σ q) hM (by rw [hbm]; exact hm)
        rw [show nN (nI _) = _ from nI_clamp (by omega)]
        exact ⟨rfl, by omega⟩
      · rw [v_out0 hSt hR hRs hZ hq (fun m hm hi => d ⟨m, hm, hi⟩)]
        exact ⟨rfl, Nat.zero_le _⟩
    · rw [b_gs_ne (by omega)]
      exact ⟨(h q hq).1, Nat.le_trans (h q hq).2 (by omega)⟩
set_option maxRecDepth 100000 in
theorem v_wkL_bd (hSt : b_St σ) (hO : v_O σ) (hM : v_M σ) (hS : v_S σ) (hRs : v_Rs σ) (hW : v_W σ y) (hR : v_Rd σ y x) : ∀ (n : Nat) (ch : Int32) (z : bt_X) (b : Nat), v_Zl σ x z → v_bd z b → 10000 ≤ b → b + 8320 * n ≤ 700000 → v_bd (m_wkL σ n ch z).2 (b + 8320 * n) ∧ v_Zl σ x (m_wkL σ n ch z).2 := by
  intro n
  induction n with
  | zero => intro ch z b hZ h _ _; exact ⟨h, hZ⟩
  | succ n ih =>
    intro ch z b hZ h hb hb2
    unfold m_wkL
    split
    · exact ⟨h.mono (by omega), hZ⟩
    · have g := v_rd_bd hSt hO hM hS hRs hW hR m_32 0 (nI 0) z b m_32_e hZ h hb (by rw [m_32_e]; omega)
      rw [m_32_e] at g
      rw [m_32_e]
      have g2 := ih (m_rd σ 32 0 (nI 0) z).1 (m_rd σ 32 0 (nI 0) z).2 (b + 8320) (v_Zl_rd hZ) g (by omega) (by omega)
      rw [show b + 8320 * (n + 1) = b + 8320 + 8320 * n by omega]
      exact g2
/-- no change at the end: what stands follows from itself -/
theorem v_wkL_fix : ∀ (n : Nat) (ch : Int32) (z : bt_X), (ch = 0 → ∀ q, q < 32 → z.1 8 29 q = m_its σ z q) → (m_wkL σ n ch z).1 = 0 → ∀ q, q < 32 → (m_wkL σ n ch z).2.1 8 29 q = m_its σ (m_wkL σ n ch z).2 q := by
  intro n
  induction n with
  | zero => intro ch z h hc; exact h hc
  | succ n ih =>
    intro ch z h hc
    unfold m_wkL at hc ⊢
    by_cases c : ch = 0
    · rw [if_pos c]; exact h c
    · rw [if_neg c] at hc ⊢
      refine ih _ _ (fun h0 q hq => ?_) hc
      obtain ⟨g1, g2⟩ := m_rd_0 m_32 0 (nI 0) z h0
      rw [g1]
      exact g2 q (Nat.zero_le _) (by rw [m_32_e]; omega)
set_option maxRecDepth 100000 in
/-- where the reference sees no way round, the class gives all their times -/
theorem v_nostuck (hSt : b_St σ) (hO : v_O σ) (hM : v_M σ) (hS : v_S σ) (hRs : v_Rs σ) (hW : v_W σ y) (hC : v_CI σ y) (hR : v_Rd σ y x) (hk : v_stuck σ y (σ.2.2 0)) (h : ¬ m_wOk σ x = nI 0) : ∀ m, m < b_nm σ → ∀ i ∈ y.2.2 (4 + m), i ∈ y.2.2 2 := by
  have hc : (m_wk σ x).1 = 0 := by
    refine Decidable.byContradiction fun q => h ?_
    unfold m_wOk
    exact if_neg q
  have hZ0 : v_Zl σ x (m_lays σ x) := fun _ _ _ => rfl
  obtain ⟨hb, hZ⟩ := v_wkL_bd hSt hO hM hS hRs hW hR m_33 (nI 1) (m_lays σ x) 10000 hZ0 (fun q hq => by rw [v_lays_29 hq]; exact ⟨rfl, Nat.zero_le _⟩) (Nat.le_refl _) (by rw [m_33_e]; omega)
  have hf := v_wkL_fix m_33 (nI 1) (m_lays σ x) (fun e => absurd e (by decide)) hc
  rw [m_33_e] at hb hZ hf
  generalize (m_wkL σ 33 (nI 1) (m_lays σ x)).2 = z at hb hZ hf
  have key : ∀ N i m, v_r z i = N → m < b_nm σ → i ∈ y.2.2 (4 + m) → i ∈ y.2.2 2 := by
    intro N
    induction N using Nat.strongRecOn with
    | ind N ih =>
      intro i m hN hm hi
      obtain ⟨k, hki⟩ := v_mem hi
      obtain ⟨hop, hbm⟩ := (hW.1 m hm).2 i hi
      have h32 := v_op32 hSt hop
      obtain ⟨g1, g2⟩ := v_itsB hSt hO hM hS hRs hW hR hZ hb (by omega) hm hi
      obtain ⟨k1, k2⟩ := v_lsN_le (m := b_m σ i) (r := v_rN σ (v_r z) (y.2.1 2 i 8) (σ.2.1 2 i 6) i) (l := v_ln σ i) hM (by rw [hbm]; exact hm)
      have eN : v_r z i = v_lsN σ (b_m σ i) (v_rN σ (v_r z) (y.2.1 2 i 8) (σ.2.1 2 i 6) i) (v_ln σ i) := by
        show nN (z.1 8 29 i) = _
        rw [hf i h32, g1]
        exact nI_clamp (by omega)
      have less : ∀ a, y.2.1 2 i 8 = some a ∨ σ.2.1 2 i 6 = some a → v_op σ a → v_r z a < N := fun a ha hoa => by
        have hla := (v_lnE hO hoa).2.1
        have : v_r z a + v_ln σ a ≤ v_rN σ (v_r z) (y.2.1 2 i 8) (σ.2.1 2 i 6) i := by
          unfold v_rN
          rcases ha with ha | ha
          · rw [ha]
            refine Nat.le_trans ?_ (Nat.le_max_left _ _)
            show v_r z a + v_ln σ a ≤ v_r z a + v_ln σ a + _
            omega
          · rw [ha]
            exact Nat.le_max_right _ _
        omega
      obtain ⟨t, ht, tl, hT⟩ := hC.1 m hm
      obtain ⟨c, hcj, hc4, hcT⟩ := hC.2.1 (i / 4) hop.1
      have ei : 4 * (i / 4) + i % 4 = i := by omega
      have hkt : k ≤ t := by
        rcases Nat.eq_zero_or_pos k with e | e
        · omega
        · have hkl := v_lt hki
          have ea : (y.2.2 (4 + m))[k - 1]? = some ((y.2.2 (4 + m))[k - 1]'(by omega)) := List.getElem?_eq_getElem (by omega)
          have hlk := (hW.2.1 m hm k i hki).1
          rw [if_neg (by omega), ea] at hlk
          have hma := List.mem_of_getElem? ea
          have := ih _ (less _ (Or.inl hlk) ((hW.1 m hm).2 _ hma).1) _ m rfl hm hma
          have := (hT (k - 1) _ ea).mp this
          omega
      rcases Nat.lt_or_ge k t with q | q
      · exact (hT k i hki).mpr q
      · have ek : k = t := by omega
        subst ek
        have hci : i % 4 ≤ c := by
          by_cases e : i % 4 = 0
          · omega
          · obtain ⟨m', hm', h'⟩ := hW.2.2.1 m hm i hi e
            have ha : σ.2.1 2 i 6 = some (i - 1) := by rw [(hO i hop).2.2.2.1, if_neg e]
            have := ih _ (less _ (Or.inr ha) ((hW.1 m' hm').2 _ h').1) _ m' rfl hm' h'
            have := (hcT (i % 4 - 1) (by omega)).mp (by rw [show 4 * (i / 4) + (i % 4 - 1) = i - 1 by omega]; exact this)
            omega
        rcases Nat.lt_or_ge (i % 4) c with q2 | q2
        · have := (hcT (i % 4) (by omega)).mpr q2
          rw [ei] at this
          exact this
        · exfalso
          refine hk m ((v_mr hSt).mpr hm) k i ht tl hki ?_
          rw [(hO i hop).2.2.1, hcj]
          congr 1
          omega
  exact fun m hm i hi => key _ i m rfl hm hi
/-- the greatest finish, as the class finds it -/
theorem v_mx_s {F : Nat → Nat} : ∀ (L : List Nat) (s : Nat), s < 1000000 → (∀ i ∈ L, x.1 2 i 11 = nI (F i) ∧ F i < 1000000) → ∃ M, v_mx x L (nI s) = nI M ∧ M < 1000000 ∧ s ≤ M ∧ (∀ i ∈ L, F i ≤ M) ∧ (M = s ∨ ∃ i ∈ L, M = F i) := by
  intro L
  induction L with
  | nil => intro s hs _; exact ⟨s, rfl, hs, Nat.le_refl _, fun i hi => absurd hi List.not_mem_nil, Or.inl rfl⟩
  | cons a L ih =>
    intro s hs h
    obtain ⟨h1, h2⟩ := h a List.mem_cons_self
    have e : b_max (nI s) (x.1 2 a 11) = nI (max s (F a)) := by
      unfold b_max
      rw [h1]
      by_cases c : s < F a
      · rw [if_pos ((nI_ltI (by omega) (by omega)).mpr c), Nat.max_eq_right (by omega)]
      · rw [if_neg (fun q => c ((nI_ltI (by omega) (by omega)).mp q)), Nat.max_eq_left (by omega)]
    unfold v_mx
    rw [e]
    obtain ⟨M, g1, g2, g3, g4, g5⟩ := ih (max s (F a)) (Nat.max_lt.mpr ⟨hs, h2⟩) (fun i hi => h i (List.mem_cons_of_mem _ hi))
    refine ⟨M, g1, g2, by omega, fun i hi => ?_, ?_⟩
    · rcases List.mem_cons.mp hi with rfl | hi
      · omega
      · exact g4 i hi
    · rcases g5 with g5 | ⟨i, hi, g5⟩
      · rcases Nat.le_total s (F a) with q | q
        · exact Or.inr ⟨a, List.mem_cons_self, by omega⟩
        · exact Or.inl (by omega)
      · exact Or.inr ⟨i, List.mem_cons_of_mem _ hi, g5⟩
theorem v_spn_s {F : Nat → Nat} : ∀ (n p s : Nat), n + p = 32 → s < 1000000 → (∀ i, i < 32 → ¬ z.1 8 26 i = 0 → m_fin σ z i = nI (F i) ∧ F i < 1000000) → ∃ M, m_spn σ z n p (nI s) = nI M ∧ M < 1000000 ∧ s ≤ M ∧ (∀ i, p ≤ i → i < 32 → ¬ z.1 8 26 i = 0 → F i ≤ M) ∧ (M = s ∨ ∃ i, i < 32 ∧ ¬ z.1 8 26 i = 0 ∧ M = F i) := by
  intro n
  induction n with
  | zero => intro p s hp hs _; exact ⟨s, rfl, hs, Nat.le_refl _, fun i h1 h2 => by omega, Or.inl rfl⟩
  | succ n ih =>
    intro p s hp hs h
    unfold m_spn
    by_cases c : z.1 8 26 p = 0
    · rw [if_pos c]
      obtain ⟨M, g1, g2, g3, g4, g5⟩ := ih (p + 1) s (by omega) hs h
      refine ⟨M, g1, g2, g3, fun i h1 h2 h3 => ?_, g5⟩
      by_cases e : i = p
      · subst e; exact absurd c h3
      · exact g4 i (by omega) h2 h3
    · rw [if_neg c]
      obtain ⟨h1, h2⟩ := h p (by omega) c
      have e : (if m_fin σ z p ≤ nI s then nI s else m_fin σ z p) = nI (max s (F p)) := by
        rw [h1]
        by_cases d : F p ≤ s
        · rw [if_pos ((nI_leI (by omega) (by omega)).mpr d), Nat.max_eq_left d]
        · rw [if_neg (fun q => d ((nI_leI (by omega) (by omega)).mp q)), Nat.max_eq_right (by omega)]
      rw [e]
      obtain ⟨M, g1, g2, g3, g4, g5⟩ := ih (p + 1) (max s (F p)) (by omega) (Nat.max_lt.mpr ⟨hs, h2⟩) h
      refine ⟨M, g1, g2, by omega, fun i q1 q2 q3 => ?_, ?_⟩
      · by_cases e : i = p
        · subst e; omega
        · exact g4 i (by omega) q2 q3
      · rcases g5 with g5 | g5
        · rcases Nat.le_total s (F p) with q | q
          · exact Or.inr ⟨p, by omega, c, by omega⟩
          · exact Or.inl (by omega)
        · exact Or.inr g5
/-- all times found: the order, the starts -/
theorem v_CI_So (hSt : b_St σ) (hO : v_O σ) (hM : v_M σ) (hS : v_S σ) (hW : v_W σ y) (hC : v_CI σ y) (hf : ∀ m, m < b_nm σ → ∀ i ∈ y.2.2 (4 + m), i ∈ y.2.2 2) : v_So σ y (y.2.2 2) (v_s y) := by
  have hl : (y.2.2 2).length ≤ 32 := Nat.le_trans (v_CI_le hSt hC) hW.2.2.2
  refine ⟨hf, hC.2.2.2.1, hC.2.2.2.2.1, hC.2.2.1, hl, fun i hi => ?_⟩
  obtain ⟨n, hn⟩ := v_mem hi
  obtain ⟨-, -, -, g4, g5⟩ := v_sol hSt hO hM hS hW hC n i hn
  exact ⟨g5, by have := v_lt hn; omega⟩
/-- times that are found: the reference finds them too -/
theorem v_fresh (hSt : b_St σ) (hO : v_O σ) (hM : v_M σ) (hS : v_S σ) (hRs : v_Rs σ) (hW : v_W σ y) (hC : v_CI σ y) (hf : ∀ m, m < b_nm σ → ∀ i ∈ y.2.2 (4 + m), i ∈ y.2.2 2) (hR : v_Rd σ y x) :
    m_wOk σ x = nI 1 ∧ (∀ i ∈ y.2.2 2, (m_wS σ x).1 8 29 i = y.1 2 i 10) ∧ m_span σ (m_wS σ x) = y.1 4 0 5 := by
  have hSo := v_CI_So hSt hO hM hS hW hC hf
  obtain ⟨g1, g2⟩ := v_works hSt hO hM hS hRs hW hR hSo
  refine ⟨g1, ?_⟩
  have hs : ∀ i ∈ y.2.2 2, (m_wS σ x).1 8 29 i = y.1 2 i 10 := fun i hi => by
    obtain ⟨n, hn⟩ := v_mem hi
    rw [g2 i hi, (v_sol hSt hO hM hS hW hC n i hn).2.1]
  refine ⟨hs, ?_⟩
  have hZ : v_Zl σ x (m_wS σ x) := fun i k hi => by unfold m_wS m_wk; rw [m_wkL_n (by omega)]
  have isin : ∀ i, i < 32 → (¬ (m_wS σ x).1 8 26 i = 0 ↔ i ∈ y.2.2 2) := fun i hi32 => by
    constructor
    · intro h
      refine Classical.byContradiction fun z => h ?_
      rw [hZ 26 i (by omega)]
      exact v_lays_out hSt hR hRs.1 hi32 (fun m hm him => z (hf m hm i him))
    · intro h
      obtain ⟨m, hm, him⟩ := hC.2.2.2.1 i h
      exact (v_Zl_row hSt hO hW hR hRs hZ hm him).1
  have hfin : ∀ i, i ∈ y.2.2 2 → y.1 2 i 11 = nI (v_s y i + v_ln σ i) ∧ v_s y i + v_ln σ i < 1000000 ∧ v_op σ i := fun i hi => by
    obtain ⟨n, hn⟩ := v_mem hi
    obtain ⟨q1, q2, q3, q4, q5⟩ := v_sol hSt hO hM hS hW hC n i hn
    have := (v_lnE hO q1).2.2
    have := v_lt hn
    have := hSo.2.2.2.2.1
    exact ⟨q3, by omega, q1⟩
  obtain ⟨M1, a1, a2, a3, a4, a5⟩ := v_mx_s (x := y) (F := fun i => v_s y i + v_ln σ i) (y.2.2 2) 0 (by decide) (fun i hi => ⟨(hfin i hi).1, (hfin i hi).2.1⟩)
  obtain ⟨M2, b1, b2, b3, b4, b5⟩ := v_spn_s (σ := σ) (z := m_wS σ x) (F := fun i => v_s y i + v_ln σ i) m_32 0 0 m_32_e (by decide) (fun i hi32 h => by
    have hi := (isin i hi32).mp h
    obtain ⟨n, hn⟩ := v_mem hi
    obtain ⟨q1, q2, q3, q4, q5⟩ := v_sol hSt hO hM hS hW hC n i hn
    unfold m_fin
    rw [hs i hi, q2, (hRs.2.2.2.1 i q1).2.1, (v_lnE hO q1).1, nI_add]
    exact ⟨rfl, (hfin i hi).2.1⟩)
  have eM : M1 = M2 := by
    refine Nat.le_antisymm ?_ ?_
    · rcases a5 with a5 | ⟨i, hi, a5⟩
      · omega
      · have h32 := v_op32 hSt (hfin i hi).2.2
        have := b4 i (Nat.zero_le _) h32 ((isin i h32).mpr hi)
        omega
    · rcases b5 with b5 | ⟨i, h32, hi, b5⟩
      · omega
      · have := a4 i ((isin i h32).mp hi)
        omega
  rw [hC.2.2.2.2.2.2, a1, eM]
  exact b1
/-- the two ways: one answer -/
theorem v_same (hSt : b_St σ) (hO : v_O σ) (hM : v_M σ) (hS : v_S σ) (hRs : v_Rs σ) (hW : v_W σ y) (hR : v_Rd σ y x) :
    m_wOk σ x = (b_all σ y).1 ∧ (¬ (b_all σ y).1 = nI 0 → (∀ i ∈ (b_all σ y).2.2.2 2, (m_wS σ x).1 8 29 i = (b_all σ y).2.1 2 i 10) ∧ m_span σ (m_wS σ x) = (b_all σ y).2.1 4 0 5) := by
  obtain ⟨⟨hC, hW2, hF⟩, e1, e2⟩ := v_all hSt hO hW
  have hR2 : v_Rd σ (b_all σ y).2 x := ⟨hR.1, fun m hm => by rw [e2 _ (by omega)]; exact hR.2.1 m hm, fun m hm k i hk => hR.2.2 m hm k i (by rw [e2 _ (by omega)] at hk; exact hk)⟩
  generalize hr : b_all σ y = r at hC hW2 hF hR2 ⊢
  rcases hF with ⟨h1, hf⟩ | ⟨h0, hk, m, i, hm, hi, hni⟩
  · obtain ⟨g1, g2, g3⟩ := v_fresh hSt hO hM hS hRs hW2 hC hf hR2
    rw [g1, h1]
    exact ⟨rfl, fun _ => ⟨g2, g3⟩⟩
  · have hne : m_wOk σ x = nI 0 := by
      refine Classical.byContradiction fun q => hni ?_
      exact v_nostuck hSt hO hM hS hRs hW2 hC hR2 hk q m hm i hi
    rw [hne, h0]
    exact ⟨rfl, fun q => absurd rfl q⟩
end VU

