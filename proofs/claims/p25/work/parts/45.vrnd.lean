/-! ===== starts by rounds: the same starts ===== -/
section VD
variable {σ x y w z : bt_X}
/-- only starts in rounds are other -/
def v_12 (x z : bt_X) : Prop := z.2 = x.2 ∧ ∀ c i k, ¬ (c = 2 ∧ k = 12) → z.1 c i k = x.1 c i k
theorem v_12.refl : v_12 x x := ⟨rfl, fun _ _ _ _ => rfl⟩
theorem v_12.gs (h : v_12 x z) {i : Nat} {v : Int32} : v_12 x (bt_gs z 2 i 12 v) := ⟨h.1, fun c i' k hk => by rw [b_gs_ne (by omega)]; exact h.2 c i' k hk⟩
def v_u (z : bt_X) (i : Nat) : Nat := nN (z.1 2 i 12)
/-- starts in rounds are not too late -/
def v_U (σ x z : bt_X) : Prop := v_12 x z ∧ ∀ i ∈ x.2.2 2, z.1 2 i 12 = nI (v_u z i) ∧ v_u z i ≤ v_s x i
def v_ex (x z : bt_X) (i : Nat) : Prop := z.1 2 i 12 = nI (v_s x i)
def v_p12 (x z : bt_X) (r : Nat) : Prop := ∀ n i : Nat, n < r → (x.2.2 2)[n]? = some i → v_ex x z i
theorem v_rinE (h : v_Inv σ x) (hU : v_U σ x z) {i : Nat} (hi : i ∈ x.2.2 2) : b_rin σ z i = nI (v_rN σ (v_u z) (x.2.1 2 i 8) (σ.2.1 2 i 6) i) ∧ v_rN σ (v_u z) (x.2.1 2 i 8) (σ.2.1 2 i 6) i < 900000 := by
  obtain ⟨hSo, hS⟩ := v_Sx h
  have hO := h.1.1.2.1
  have hop := (hS i hi).1
  have hp : ∀ a, σ.2.1 2 i 6 = some a ∨ x.2.1 2 i 8 = some a → v_op σ a ∧ z.1 2 a 12 = nI (v_u z a) ∧ v_u z a ≤ 18320 := fun a ha => by
    have hm := (v_ahead_le h hi ha).1
    obtain ⟨q1, q2, q3, q4⟩ := hS a hm
    obtain ⟨r1, r2⟩ := hU.2 a hm
    exact ⟨q1, r1, by omega⟩
  have hle := v_rNle (S := v_u z) (b := 18320) hO h.1.1.2.2.2.1 hop (am := x.2.1 2 i 8) (aj := σ.2.1 2 i 6) (fun a ha => by obtain ⟨q1, q2, q3⟩ := hp a ha.symm; exact ⟨q1, q3⟩)
  refine ⟨?_, by omega⟩
  obtain ⟨b1, b2⟩ := v_btE hO h.1.1.2.2.2.1 (a := x.2.1 2 i 8) hop (fun b hb => (hp b (Or.inr hb)).1)
  have hf : b_fre σ z (x.2.1 2 i 8) = nI (v_fo σ (v_u z) (x.2.1 2 i 8)) ∧ v_fo σ (v_u z) (x.2.1 2 i 8) < 20000 := by
    cases e : x.2.1 2 i 8 with
    | none => exact ⟨rfl, by show 0 < 20000; decide⟩
    | some a =>
      obtain ⟨g1, g2, g3⟩ := hp a (Or.inr e)
      have := v_lnE hO g1
      show z.1 2 a 12 + σ.1 2 a 3 = nI (v_u z a + v_ln σ a) ∧ v_u z a + v_ln σ a < 20000
      rw [g2, this.1, nI_add]
      exact ⟨rfl, by omega⟩
  unfold b_rin
  rw [hU.1.1, b1, hf.1, nI_add]
  unfold v_rN at hle ⊢
  have h2 := hf.2
  generalize v_fo σ (v_u z) (x.2.1 2 i 8) = u at h2 hle ⊢
  cases e : σ.2.1 2 i 6 with
  | none =>
    show nI _ = nI (max _ 0)
    rw [Nat.max_eq_left (Nat.zero_le _)]
  | some a =>
    obtain ⟨g1, g2, g3⟩ := hp a (Or.inl e)
    have g4 := v_lnE hO g1
    show (if nI _ < z.1 2 a 12 + σ.1 2 a 3 then z.1 2 a 12 + σ.1 2 a 3 else nI _) = nI (max _ (v_u z a + v_ln σ a))
    rw [g2, g4.1, nI_add]
    by_cases c : u + v_bt σ (x.2.1 2 i 8) i < v_u z a + v_ln σ a
    · rw [if_pos ((nI_ltI (by omega) (by omega)).mpr c), Nat.max_eq_right (by omega)]
    · rw [if_neg (fun z => c ((nI_ltI (by omega) (by omega)).mp z)), Nat.max_eq_left (by omega)]
theorem v_fo_mono {S T : Nat → Nat} {a : Option Nat} (h : ∀ b, a = some b → S b ≤ T b) : v_fo σ S a ≤ v_fo σ T a := by
  cases a with
  | none => exact Nat.le_refl _
  | some b => exact Nat.add_le_add_right (h b rfl) _
theorem v_rN_mono {S T : Nat → Nat} {am aj : Option Nat} {i : Nat} (h : ∀ b, am = some b ∨ aj = some b → S b ≤ T b) : v_rN σ S am aj i ≤ v_rN σ T am aj i := by
  unfold v_rN
  have h1 := v_fo_mono (σ := σ) (S := S) (T := T) (a := am) (fun b hb => h b (Or.inl hb))
  have h2 := v_fo_mono (σ := σ) (S := S) (T := T) (a := aj) (fun b hb => h b (Or.inr hb))
  omega
theorem v_lsN_mono (hM : v_M σ) {m r s l : Nat} (hm : m < b_nm σ) (h : r ≤ s) : v_lsN σ m r l ≤ v_lsN σ m s l := by
  obtain ⟨h1, h2⟩ := hM m hm
  unfold v_lsN
  by_cases c : σ.1 1 m 3 = nI 0
  · rw [if_pos c, if_pos c]; exact h
  · obtain ⟨a, b, e4, e5, hab, hb⟩ := h2 c
    rw [if_neg c, if_neg c, e4, e5, show nN (nI a) = a from nI_clamp (by omega), show nN (nI b) = b from nI_clamp (by omega)]
    split <;> split <;> (try split) <;> (try split) <;> omega
/-- one operation's start in this round -/
theorem v_one12 (h : v_Inv σ x) (hU : v_U σ x z) {i m : Nat} (hm : m < b_nm σ) (him : i ∈ x.2.2 (4 + m)) : ∃ v, b_ls σ m (b_rin σ z i) (σ.1 2 i 3) = nI v ∧ v ≤ v_s x i ∧ v < 1000000 ∧ ((∀ a, σ.2.1 2 i 6 = some a ∨ x.2.1 2 i 8 = some a → v_ex x z a) → v = v_s x i) := by
  obtain ⟨hSo, hS⟩ := v_Sx h
  have hi := hSo.1 m hm i him
  obtain ⟨q1, q2⟩ := v_rinE h hU hi
  obtain ⟨hop, hbm⟩ := (h.1.2.1.1 m hm).2 i him
  have hl := v_lnE h.1.1.2.1 hop
  obtain ⟨k1, k2, k3⟩ := v_lsE h.1.1.2.2.1 (m := m) (r := v_rN σ (v_u z) (x.2.1 2 i 8) (σ.2.1 2 i 6) i) (l := v_ln σ i) hm (by omega) hl.2.2
  have es := (hSo.2.2.2.2.2 i hi).1
  rw [hbm] at es
  refine ⟨_, by rw [q1, hl.1]; exact k1, ?_, by omega, fun hx => ?_⟩
  · rw [es]
    refine v_lsN_mono h.1.1.2.2.1 hm (v_rN_mono (fun b hb => ?_))
    exact (hU.2 b (v_ahead_le h hi hb.symm).1).2
  · rw [es]
    congr 1
    have hu : ∀ b, σ.2.1 2 i 6 = some b ∨ x.2.1 2 i 8 = some b → v_u z b = v_s x b := fun b hb => by
      show nN (z.1 2 b 12) = _
      rw [hx b hb]
      have := (hS b (v_ahead_le h hi hb).1).2.2.2
      exact nI_clamp (by omega)
    exact Nat.le_antisymm (v_rN_mono (fun b hb => by rw [hu b hb.symm]; exact Nat.le_refl _)) (v_rN_mono (fun b hb => by rw [hu b hb.symm]; exact Nat.le_refl _))
/-- a row in a round -/
theorem v_prow (h : v_Inv σ x) {m r : Nat} (hm : m < b_nm σ) : ∀ (os : List Nat) (z : bt_X) (mv : Int32), (∀ i ∈ os, i ∈ x.2.2 (4 + m)) → v_U σ x z → v_p12 x z r →
    v_U σ x (b_prow σ m z mv os).2 ∧ v_p12 x (b_prow σ m z mv os).2 r ∧ (∀ i, (x.2.2 2)[r]? = some i → (i ∈ os ∨ v_ex x z i) → v_ex x (b_prow σ m z mv os).2 i) ∧
    ((b_prow σ m z mv os).1 = 0 → mv = 0 ∧ (b_prow σ m z mv os).2 = z ∧ ∀ i ∈ os, b_ls σ m (b_rin σ z i) (σ.1 2 i 3) ≤ z.1 2 i 12) := by
  obtain ⟨hSo, hS⟩ := v_Sx h
  intro os
  induction os with
  | nil => intro z mv _ hU hp; exact ⟨hU, hp, fun i _ hi => hi.resolve_left List.not_mem_nil, fun e => ⟨e, rfl, fun i hi => absurd hi List.not_mem_nil⟩⟩
  | cons o os ih =>
    intro z mv hos hU hp
    have ho := hos o List.mem_cons_self
    have hoL := hSo.1 m hm o ho
    have hos2 := fun i hi => hos i (List.mem_cons_of_mem _ hi)
    obtain ⟨v, e1, e2, e3, e4⟩ := v_one12 h hU hm ho
    obtain ⟨u1, u2⟩ := hU.2 o hoL
    have hs := (hS o hoL).2.2.2
    -- all ahead are settled: it is what it should be
    have hset : ∀ n, (x.2.2 2)[n]? = some o → n ≤ r → v = v_s x o := fun n hn hnr => e4 (fun a ha => by
      obtain ⟨n', q1, q2⟩ := hSo.2.2.1 n o hn a ha
      exact hp n' a (by omega) q2)
    unfold b_prow
    rw [e1, u1]
    by_cases c : nI v ≤ nI (v_u z o)
    · rw [if_pos c]
      have c2 : v ≤ v_u z o := (nI_leI (by omega) (by omega)).mp c
      obtain ⟨g1, g2, g3, g4⟩ := ih z mv hos2 hU hp
      refine ⟨g1, g2, fun i hi hor => ?_, fun e => ?_⟩
      · rcases hor with hor | hor
        · rcases List.mem_cons.mp hor with rfl | hor
          · refine g3 i hi (Or.inr ?_)
            have := hset r hi (Nat.le_refl _)
            show z.1 2 i 12 = _
            rw [u1]
            congr 1
            omega
          · exact g3 i hi (Or.inl hor)
        · exact g3 i hi (Or.inr hor)
      · obtain ⟨q1, q2, q3⟩ := g4 e
        refine ⟨q1, q2, fun i hi => ?_⟩
        rcases List.mem_cons.mp hi with rfl | hi
        · rw [e1, u1]; exact c
        · exact q3 i hi
    · rw [if_neg c]
      have c2 : ¬ v ≤ v_u z o := fun q => c ((nI_leI (by omega) (by omega)).mpr q)
      have eu : ∀ i, v_u (bt_gs z 2 o 12 (nI v)) i = if i = o then v else v_u z i := fun i => by
        show nN _ = _
        by_cases q : i = o
        · subst q; rw [b_gs_at, if_pos rfl]; exact nI_clamp (by omega)
        · rw [b_gs_ne (by omega), if_neg q]; rfl
      have hU2 : v_U σ x (bt_gs z 2 o 12 (nI v)) := ⟨hU.1.gs, fun i hi => by
        rw [eu]
        by_cases q : i = o
        · subst q; rw [if_pos rfl, b_gs_at]; exact ⟨rfl, e2⟩
        · rw [if_neg q, b_gs_ne (by omega)]; exact hU.2 i hi⟩
      have hp2 : v_p12 x (bt_gs z 2 o 12 (nI v)) r := fun n i hn hi => by
        by_cases q : i = o
        · subst q
          show (bt_gs z 2 i 12 (nI v)).1 2 i 12 = _
          rw [b_gs_at, hset n hi (by omega)]
        · show (bt_gs z 2 o 12 (nI v)).1 2 i 12 = _
          rw [b_gs_ne (by omega)]
          exact hp n i hn hi
      obtain ⟨g1, g2, g3, g4⟩ := ih (bt_gs z 2 o 12 (nI v)) (nI 1) hos2 hU2 hp2
      refine ⟨g1, g2, fun i hi hor => ?_, fun e => absurd (g4 e).1 (by decide)⟩
      by_cases q : i = o
      · subst q
        refine g3 i hi (Or.inr ?_)
        show (bt_gs z 2 i 12 (nI v)).1 2 i 12 = _
        rw [b_gs_at, hset r hi (Nat.le_refl _)]
      · refine g3 i hi ?_
        rcases hor with hor | hor
        · exact Or.inl ((List.mem_cons.mp hor).resolve_left q)
        · refine Or.inr ?_
          show (bt_gs z 2 o 12 (nI v)).1 2 i 12 = _
          rw [b_gs_ne (by omega)]
          exact hor
theorem v_prows (h : v_Inv σ x) {r : Nat} : ∀ (L : List Nat) (z : bt_X) (mv : Int32), (∀ m ∈ L, m < b_nm σ) → v_U σ x z → v_p12 x z r →
    v_U σ x (b_prows σ z mv L).2 ∧ v_p12 x (b_prows σ z mv L).2 r ∧ (∀ i, (x.2.2 2)[r]? = some i → ((∃ m ∈ L, i ∈ x.2.2 (4 + m)) ∨ v_ex x z i) → v_ex x (b_prows σ z mv L).2 i) ∧
    ((b_prows σ z mv L).1 = 0 → mv = 0 ∧ (b_prows σ z mv L).2 = z ∧ ∀ m ∈ L, ∀ i ∈ x.2.2 (4 + m), b_ls σ m (b_rin σ z i) (σ.1 2 i 3) ≤ z.1 2 i 12) := by
  intro L
  induction L with
  | nil => intro z mv _ hU hp; exact ⟨hU, hp, fun i _ hi => hi.resolve_left (fun ⟨m, q, _⟩ => absurd q List.not_mem_nil), fun e => ⟨e, rfl, fun m hm => absurd hm List.not_mem_nil⟩⟩
  | cons m L ih =>
    intro z mv hL hU hp
    have hm := hL m List.mem_cons_self
    have hrow : z.2.2 (4 + m) = x.2.2 (4 + m) := by rw [hU.1.1]
    obtain ⟨g1, g2, g3, g4⟩ := v_prow (r := r) h hm (z.2.2 (4 + m)) z (nI 0) (fun i hi => by rw [hrow] at hi; exact hi) hU hp
    unfold b_prows
    obtain ⟨q1, q2, q3, q4⟩ := ih (b_prow σ m z (nI 0) (z.2.2 (4 + m))).2 (if (b_prow σ m z (nI 0) (z.2.2 (4 + m))).1 = 0 then mv else nI 1) (fun m' h' => hL m' (List.mem_cons_of_mem _ h')) g1 g2
    refine ⟨q1, q2, fun i hi hor => q3 i hi ?_, fun e => ?_⟩
    · rcases hor with ⟨m', h', hor⟩ | hor
      · rcases List.mem_cons.mp h' with rfl | h'
        · exact Or.inr (g3 i hi (Or.inl (by rw [hrow]; exact hor)))
        · exact Or.inl ⟨m', h', hor⟩
      · exact Or.inr (g3 i hi (Or.inr hor))
    · obtain ⟨r1, r2, r3⟩ := q4 e
      by_cases c : (b_prow σ m z (nI 0) (z.2.2 (4 + m))).1 = 0
      · rw [if_pos c] at r1
        obtain ⟨-, s2, s3⟩ := g4 c
        refine ⟨r1, r2.trans s2, fun m' h' i hi => ?_⟩
        rw [s2] at r3
        rcases List.mem_cons.mp h' with rfl | h'
        · exact s3 i (by rw [hrow]; exact hi)
        · exact r3 m' h' i hi
      · rw [if_neg c] at r1
        exact absurd r1 (by decide)
theorem v_pr (h : v_Inv σ x) : ∀ (n r : Nat) (mv : Int32) (z : bt_X), n + r = 33 → v_U σ x z → v_p12 x z r → (mv = 0 → v_p12 x z 33) → v_p12 x (b_pr σ n mv z) 33 ∧ v_12 x (b_pr σ n mv z) := by
  obtain ⟨hSo, hS⟩ := v_Sx h
  have hSt := h.1.1.1
  intro n
  induction n with
  | zero =>
    intro r mv z hr hU hp _
    have : r = 33 := by omega
    subst this
    exact ⟨hp, hU.1⟩
  | succ n ih =>
    intro r mv z hr hU hp h0
    unfold b_pr
    by_cases c : mv = 0
    · rw [if_pos c]; exact ⟨h0 c, hU.1⟩
    · rw [if_neg c]
      obtain ⟨g1, g2, g3, g4⟩ := v_prows (r := r) h (σ.2.2 0) z (nI 0) (fun m hm => (v_mr hSt).mp hm) hU hp
      refine ih (r + 1) _ _ (by omega) g1 (fun k i hk hi => ?_) (fun e => ?_)
      · rcases Nat.lt_or_ge k r with q | q
        · exact g2 k i q hi
        · have : k = r := by omega
          subst this
          obtain ⟨m, hm, him⟩ := hSo.2.1 i (List.mem_of_getElem? hi)
          exact g3 i hi (Or.inl ⟨m, (v_mr hSt).mpr hm, him⟩)
      · obtain ⟨-, e2, e3⟩ := g4 e
        rw [e2]
        have key : ∀ k, v_p12 x z k := by
          intro k
          induction k with
          | zero => intro n i hn; omega
          | succ k ihk =>
            intro n' i hn hi
            rcases Nat.lt_or_ge n' k with q | q
            · exact ihk n' i q hi
            · have : n' = k := by omega
              subst this
              obtain ⟨m, hm, him⟩ := hSo.2.1 i (List.mem_of_getElem? hi)
              obtain ⟨v, e1, e4, e5, e6⟩ := v_one12 h hU hm him
              have ev := e6 (fun a ha => by
                obtain ⟨n2, q1, q2⟩ := hSo.2.2.1 n' i hi a ha
                exact ihk n2 a q1 q2)
              obtain ⟨u1, u2⟩ := hU.2 i (List.mem_of_getElem? hi)
              have hs := (hS i (List.mem_of_getElem? hi)).2.2.2
              have := e3 m ((v_mr hSt).mpr hm) i him
              rw [e1, u1] at this
              have := (nI_leI (by omega) (by omega)).mp this
              show z.1 2 i 12 = _
              rw [u1]
              congr 1
              omega
        exact key 33
theorem v_later (h : v_Inv σ x) : (∀ i ∈ x.2.2 2, (b_later σ x).1 2 i 12 = x.1 2 i 10) ∧ v_12 x (b_later σ x) := by
  obtain ⟨hSo, hS⟩ := v_Sx h
  have key : ∀ (os : List Nat) (z : bt_X), v_12 x z → v_12 x (b_rs0 z os) ∧ ∀ i, (i ∈ os ∨ z.1 2 i 12 = nI 0) → (b_rs0 z os).1 2 i 12 = nI 0 := by
    intro os
    induction os with
    | nil => intro z hz; exact ⟨hz, fun i hi => hi.resolve_left List.not_mem_nil⟩
    | cons o os ih =>
      intro z hz
      obtain ⟨g1, g2⟩ := ih (bt_gs z 2 o 12 (nI 0)) hz.gs
      refine ⟨g1, fun i hi => g2 i ?_⟩
      by_cases q : i = o
      · subst q; exact Or.inr b_gs_at
      · rcases hi with hi | hi
        · exact Or.inl ((List.mem_cons.mp hi).resolve_left q)
        · exact Or.inr (by rw [b_gs_ne (by omega)]; exact hi)
  obtain ⟨k1, k2⟩ := key (x.2.2 2) x v_12.refl
  have hU : v_U σ x (b_rs0 x (x.2.2 2)) := ⟨k1, fun i hi => by
    unfold v_u
    rw [k2 i (Or.inl hi)]
    exact ⟨rfl, Nat.zero_le _⟩⟩
  obtain ⟨g1, g2⟩ := v_pr h 33 0 (nI 1) _ rfl hU (fun n i hn => by omega) (fun e => absurd e (by decide))
  refine ⟨fun i hi => ?_, g2⟩
  obtain ⟨n, hn⟩ := v_mem hi
  rw [(hS i hi).2.1]
  exact g1 n i (by have := v_lt hn; have := hSo.2.2.2.2.1; omega) hn
theorem s_sbr (h : v_Inv σ x) {a b : Int32} (hX : v_cX (b_sbr σ x a b).2.2 w) (hr : v_rA (b_sbr σ x a b).2.2 w) : v_Ok (b_sbr σ x a b) z_startByRounds (m_stn σ w a b) := by
  obtain ⟨g1, g2⟩ := v_later h
  have hX12 : v_cX x (b_later σ x) := ⟨by rw [g2.1], fun n _ => by rw [g2.1], fun c i k hc hk => g2.2 c i k (by omega)⟩
  have hr12 : v_rA x (b_later σ x) := fun c i k hc => g2.2 c i k (by omega)
  unfold b_sbr at hX hr ⊢
  unfold m_stn
  rcases v_po (a := a) (b := b) h with ⟨i, e1, e2, e3, e4⟩ | ⟨e1, e2⟩ | ⟨e1, e2⟩
  · rw [e1] at hX hr ⊢
    rw [e2]
    have hX2 := hX12.trans hX
    have hw := h.go hX2 (hr12.trans hr)
    refine ⟨hw.thr.wS, by rw [m_works_n (by omega)]; exact m_thr_at, fun u hu => ?_⟩
    cases hu
    have hw2 := hw.thr (v := nI 0)
    show (m_wS σ (m_thr w (nI 0))).1 8 29 i = (b_later σ x).1 2 i 12
    rw [g1 i (v_pl_ord h e3 e4), (v_now hw2).2.1 i (v_pl_ord hw2 e3 e4), m_thr_n (by omega), hX2.2.2 2 i 10 (by omega) (by omega)]
  · rw [e1] at hX hr ⊢
    rw [e2]
    have hw := h.go hX hr
    exact ⟨hw.thr.wS, by rw [m_works_n (by omega)]; exact m_thr_at, fun u hu => by cases hu⟩
  · rw [e1] at hX hr ⊢
    rw [e2]
    have hw := h.go hX hr
    exact ⟨hw.thr.wS, by rw [m_works_n (by omega)]; exact m_thr_at, fun u hu => by cases hu⟩
end VD

