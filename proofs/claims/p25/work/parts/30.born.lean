/-! ===== what is made ===== -/
/-- one object more -/
def x_A (α : bt_A) (c i q n : Nat) : bt_A := (fun c' i' => α.1 c' i' ∨ (c' = c ∧ i' = i), fun c' i' => if c' = c ∧ i' = i then q else α.2.1 c' i', α.2.2.1, α.2.2.2 + n)
/-- its numbers and references -/
def x_O (y : bt_X) (c i : Nat) (f : Nat → Int32) (g : Nat → Option Nat) : bt_X := (fun c' i' k => if c' = c ∧ i' = i then f k else y.1 c' i' k, fun c' i' k => if c' = c ∧ i' = i then g k else y.2.1 c' i' k, y.2.2)
theorem x_A_ad {α : bt_A} {c i q n : Nat} : bt_ad (x_A α c i q n) c i = q := if_pos ⟨rfl, rfl⟩
theorem x_A_ado {α : bt_A} {c i q n c' i' : Nat} (h : ¬ (c' = c ∧ i' = i)) : bt_ad (x_A α c i q n) c' i' = bt_ad α c' i' := if_neg h
theorem x_O_at {y : bt_X} {c i k : Nat} {f : Nat → Int32} {g : Nat → Option Nat} : (x_O y c i f g).1 c i k = f k := if_pos ⟨rfl, rfl⟩
theorem x_O_atr {y : bt_X} {c i k : Nat} {f : Nat → Int32} {g : Nat → Option Nat} : (x_O y c i f g).2.1 c i k = g k := if_pos ⟨rfl, rfl⟩
theorem x_O_n {y : bt_X} {c i k c' i' : Nat} {f : Nat → Int32} {g : Nat → Option Nat} (h : ¬ (c' = c ∧ i' = i)) : (x_O y c i f g).1 c' i' k = y.1 c' i' k := if_neg h
theorem x_O_nr {y : bt_X} {c i k c' i' : Nat} {f : Nat → Int32} {g : Nat → Option Nat} (h : ¬ (c' = c ∧ i' = i)) : (x_O y c i f g).2.1 c' i' k = y.2.1 c' i' k := if_neg h
theorem bt_lp_1 {y : bt_X} {n : Nat} {v : List Nat} : (bt_lp y n v).1 = y.1 := rfl
theorem bt_lp_21 {y : bt_X} {n : Nat} {v : List Nat} : (bt_lp y n v).2.1 = y.2.1 := rfl
theorem bt_v0 {α : bt_A} {σ x : bt_X} {c i k : Nat} (h : bt_t c i k = 0) : bt_v α σ x c i k = .int (x.1 c i k) := by simp [bt_v, h]
theorem bt_v2 {α : bt_A} {σ x : bt_X} {c i k : Nat} (h : bt_t c i k = 2) : bt_v α σ x c i k = va_rf ((x.2.1 c i k).map (bt_ad α (bt_c c k))) := by simp [bt_v, h]
theorem bt_v3 {α : bt_A} {σ x : bt_X} {c i k : Nat} (h : bt_t c i k = 3) : bt_v α σ x c i k = .ref (bt_ad α (bt_c c k) (bt_n c i k)) := by simp [bt_v, h]
theorem bt_v4 {α : bt_A} {σ x : bt_X} {c i k : Nat} (h : bt_t c i k = 4) : bt_v α σ x c i k = .int (σ.1 c i k) := by simp [bt_v, h]
theorem bt_v5 {α : bt_A} {σ x : bt_X} {c i k : Nat} (h : bt_t c i k = 5) : bt_v α σ x c i k = va_rf ((σ.2.1 c i k).map (bt_ad α (bt_c c k))) := by simp [bt_v, h]
/-- what stood stays -/
theorem bt_vx {α α' : bt_A} {σ σ' x x' : bt_X} {c i k : Nat} (h1 : σ'.1 c i k = σ.1 c i k) (h2 : x'.1 c i k = x.1 c i k) (h3 : σ'.2.1 c i k = σ.2.1 c i k) (h4 : x'.2.1 c i k = x.2.1 c i k)
    (g2 : bt_t c i k = 2 → ∀ a, x.2.1 c i k = some a → bt_ad α' (bt_c c k) a = bt_ad α (bt_c c k) a) (g5 : bt_t c i k = 5 → ∀ a, σ.2.1 c i k = some a → bt_ad α' (bt_c c k) a = bt_ad α (bt_c c k) a)
    (g3 : bt_t c i k = 3 → bt_ad α' (bt_c c k) (bt_n c i k) = bt_ad α (bt_c c k) (bt_n c i k)) : bt_v α σ x c i k = bt_v α' σ' x' c i k := by
  have e2 : bt_t c i k = 2 → (x.2.1 c i k).map (bt_ad α' (bt_c c k)) = (x.2.1 c i k).map (bt_ad α (bt_c c k)) := fun t => by
    cases e : x.2.1 c i k with
    | none => rfl
    | some a => simp only [Option.map_some]; rw [g2 t a e]
  have e5 : bt_t c i k = 5 → (σ.2.1 c i k).map (bt_ad α' (bt_c c k)) = (σ.2.1 c i k).map (bt_ad α (bt_c c k)) := fun t => by
    cases e : σ.2.1 c i k with
    | none => rfl
    | some a => simp only [Option.map_some]; rw [g5 t a e]
  unfold bt_v
  rw [h1, h2, h3, h4]
  by_cases t0 : bt_t c i k = 0
  · rw [if_pos t0, if_pos t0]
  · rw [if_neg t0, if_neg t0]
    by_cases t1 : bt_t c i k = 1
    · rw [if_pos t1, if_pos t1]
    · rw [if_neg t1, if_neg t1]
      by_cases t2 : bt_t c i k = 2
      · rw [if_pos t2, if_pos t2, e2 t2]
      · rw [if_neg t2, if_neg t2]
        by_cases t3 : bt_t c i k = 3
        · rw [if_pos t3, if_pos t3, g3 t3]
        · rw [if_neg t3, if_neg t3]
          by_cases t4 : bt_t c i k = 4
          · rw [if_pos t4, if_pos t4]
          · rw [if_neg t4, if_neg t4]
            have t5 : bt_t c i k = 5 := by
              have : bt_t c i k ≤ 5 := by
                unfold bt_t
                split <;> (try split) <;> (try split) <;> (try split) <;> (try split) <;> (try split) <;> omega
              omega
            rw [e5 t5]
/-- what stands may grow -/
def m_E (α α' : bt_A) : Prop := (∀ c i, bt_V α c i → bt_V α' c i ∧ bt_ad α' c i = bt_ad α c i) ∧ (∀ n, bt_at α' n = bt_at α n) ∧ (∀ i, 5 ≤ i → bt_V α' 8 i → bt_V α 8 i) ∧ bt_us α' ≤ bt_us α + 110
theorem m_E.refl (α : bt_A) : m_E α α := ⟨fun _ _ h => ⟨h, rfl⟩, fun _ => rfl, fun _ _ h => h, Nat.le_add_right _ _⟩
theorem m_E.J {α α' : bt_A} (h : m_E α α') (J : m_J α) : m_J α' := ⟨(h.1 _ _ J.1).1, fun n hn => ⟨(h.1 _ _ (J.2 n hn).1).1, (h.2.1 n).trans (J.2 n hn).2⟩⟩
theorem x_dX1 : ∀ k : Nat, 1 ≤ k → bq_born tyX1 k = .int 0
  | 0, h => by omega
  | 1, _ => rfl
  | 2, _ => rfl
  | 3, _ => rfl
  | 4, _ => rfl
  | 5, _ => rfl
  | _ + 6, _ => rfl
theorem x_dX0 : ∀ k : Nat, k ≠ 2 → bq_born tyX0 k = .int 0
  | 0, _ => rfl
  | 1, _ => rfl
  | 2, h => absurd rfl h
  | 3, _ => rfl
  | _ + 4, _ => rfl
theorem x_dX2 : ∀ k : Nat, bq_born tyX2 k = if k = 0 ∨ k = 2 ∨ (6 ≤ k ∧ k ≤ 9) then .null else .int 0
  | 0 => rfl
  | 1 => rfl
  | 2 => rfl
  | 3 => rfl
  | 4 => rfl
  | 5 => rfl
  | 6 => rfl
  | 7 => rfl
  | 8 => rfl
  | 9 => rfl
  | 10 => rfl
  | 11 => rfl
  | 12 => rfl
  | n + 13 => by rw [if_neg (by omega)]; rfl
section XM
variable {G : bp_X} {M : bp_M} {d pc : Nat} {lv : List (Nat × Value)} {st : List Value} {Φ : bp_O → bq_O → Prop} {α : bt_A} {σ x : bt_X} {q0 q : Nat}
/-- a machine -/
def x_mA (α : bt_A) (m q0 q : Nat) : bt_A := x_A (x_A α 1 m q0 8) 7 (4 + m) q 88
def x_mS (σ : bt_X) (m : Nat) : bt_X := x_O σ 1 m (fun k => if k = 1 then nI 4 else nI 0) (fun _ => none)
def x_mX (x : bt_X) (m : Nat) : bt_X := bt_lp (x_O x 1 m (fun _ => nI 0) (fun _ => none)) (4 + m) []
theorem x_refs {α α' : bt_A} (J : bt_J α σ x) {c i k : Nat} (hV : bt_V α c i) (hc : c < 9) (h8 : c ≠ 7)
    (hk : ∀ c' i', bt_V α c' i' → bt_ad α' c' i' = bt_ad α c' i') (h38 : ∀ a, bt_ad α' 8 a = bt_ad α 8 a) (h4 : ∀ a, bt_ad α' 4 a = bt_ad α 4 a) :
    (bt_t c i k = 2 → ∀ a, x.2.1 c i k = some a → bt_ad α' (bt_c c k) a = bt_ad α (bt_c c k) a) ∧ (bt_t c i k = 5 → ∀ a, σ.2.1 c i k = some a → bt_ad α' (bt_c c k) a = bt_ad α (bt_c c k) a) ∧
    (bt_t c i k = 3 → bt_ad α' (bt_c c k) (bt_n c i k) = bt_ad α (bt_c c k) (bt_n c i k)) := by
  rcases (show c = 0 ∨ c = 1 ∨ c = 2 ∨ c = 3 ∨ c = 4 ∨ c = 5 ∨ c = 6 ∨ c = 8 by omega) with rfl | rfl | rfl | rfl | rfl | rfl | rfl | rfl
  · refine ⟨fun t => ?_, fun t => ?_, fun t => hk 7 _ (J.ops hV)⟩ <;> (simp only [bt_t] at t; split at t <;> (try split at t) <;> omega)
  · refine ⟨fun t => ?_, fun t => ?_, fun t => hk 7 _ (J.row hV)⟩ <;> (simp only [bt_t] at t; split at t <;> (try split at t) <;> omega)
  · refine ⟨fun t a e => ?_, fun t a e => ?_, fun t => ?_⟩
    · have hk8 : k = 8 ∨ k = 9 := by simp only [bt_t] at t; split at t <;> (try split at t) <;> (try split at t) <;> (try split at t) <;> (try split at t) <;> omega
      rcases hk8 with rfl | rfl
      · exact hk 2 _ (J.lnk8 hV e)
      · exact hk 2 _ (J.lnk9 hV e)
    · have hk8 : k = 2 ∨ k = 6 ∨ k = 7 := by simp only [bt_t] at t; split at t <;> (try split at t) <;> (try split at t) <;> (try split at t) <;> (try split at t) <;> omega
      rcases hk8 with rfl | rfl | rfl
      · obtain ⟨m, hm, hVm⟩ := J.mach hV
        rw [hm] at e
        cases e
        exact hk 1 _ hVm
      · exact hk 2 _ (J.lnk6 hV e)
      · exact hk 2 _ (J.lnk7 hV e)
    · have hk8 : k = 0 := by simp only [bt_t] at t; split at t <;> (try split at t) <;> (try split at t) <;> (try split at t) <;> (try split at t) <;> omega
      subst hk8
      exact hk 0 _ (J.job hV)
  · exact ⟨fun t => by simp only [bt_t] at t; split at t <;> omega, fun t a e => h38 a, fun t => h38 _⟩
  · refine ⟨fun t => by simp only [bt_t] at t; split at t <;> omega, fun t => by simp only [bt_t] at t; split at t <;> omega, fun t => ?_⟩
    show bt_ad α' (if k = 2 then 3 else 7) (if k = 1 then 1 else if k = 3 then 2 else if k = 4 then 3 else 0) = bt_ad α (if k = 2 then 3 else 7) (if k = 1 then 1 else if k = 3 then 2 else if k = 4 then 3 else 0)
    apply hk
    split
    · rw [if_neg (by omega), if_neg (by omega), if_neg (by omega)]; exact J.v3
    · split
      · exact J.l1
      · split
        · exact J.l2
        · split
          · exact J.l3
          · exact J.l0
  · exact ⟨fun t => by simp only [bt_t] at t; split at t <;> omega, fun t a e => h4 a, fun t => h4 _⟩
  · exact ⟨fun t => by simp only [bt_t] at t; split at t <;> (try split at t) <;> (try split at t) <;> omega, fun t a e => h38 a, fun t => h38 _⟩
  · exact ⟨fun t => by simp only [bt_t] at t; split at t <;> (try split at t) <;> (try split at t) <;> (try split at t) <;> omega, fun t a e => h38 a, fun t => h38 _⟩
theorem x_mach (J : bt_J α σ x) {m : Nat} (hn : ¬ bt_V α 1 m) (hl : ¬ bt_V α 7 (4 + m)) (hm : m < 4) (hJ8 : ∀ j, bt_V α 0 j → j < 8)
    (kk : bq_W G M d pc lv st (bt (x_mA α m q0 q) (x_mS σ m) (x_mX x m)) Φ) : bq_W G M d pc lv st (b_iM (bq_n (bt α σ x) 1 m q0 (bq_born tyX1) (0, 0) 8) m q) Φ := by
  have hk : ∀ c' i', bt_V α c' i' → bt_ad (x_mA α m q0 q) c' i' = bt_ad α c' i' := fun c' i' h => by
    unfold x_mA
    rw [x_A_ado (fun z => hl (by rw [← z.1, ← z.2]; exact h)), x_A_ado (fun z => hn (by rw [← z.1, ← z.2]; exact h))]
  have h38 : ∀ c a, c ≠ 1 → c ≠ 7 → bt_ad (x_mA α m q0 q) c a = bt_ad α c a := fun c a h1 h2 => by
    unfold x_mA
    rw [x_A_ado (by omega), x_A_ado (by omega)]
  have old : ∀ c i k, bt_V α c i → c < 9 → c ≠ 7 → bt_v α σ x c i k = bt_v (x_mA α m q0 q) (x_mS σ m) (x_mX x m) c i k := fun c i k hV hc h7 => by
    obtain ⟨g2, g5, g3⟩ := x_refs (k := k) J hV hc h7 hk (fun a => h38 8 a (by omega) (by omega)) (fun a => h38 4 a (by omega) (by omega))
    have hne : ¬ (c = 1 ∧ i = m) := fun z => hn (by rw [← z.1, ← z.2]; exact hV)
    exact bt_vx (x_O_n hne) (show (x_O x 1 m (fun _ => nI 0) (fun _ => none)).1 c i k = x.1 c i k from x_O_n hne) (x_O_nr hne) (show (x_O x 1 m (fun _ => nI 0) (fun _ => none)).2.1 c i k = x.2.1 c i k from x_O_nr hne) g2 g5 g3
  refine bq_conv (v2 := bt_v (x_mA α m q0 q) (x_mS σ m) (x_mX x m)) (ls2 := bt_l (x_mS σ m) (x_mX x m)) (fun c i k hV hc hk32 => ?_) (fun i k hV _ => ?_) (fun n hV => ?_) kk
  · rcases hV with (hV | ⟨rfl, rfl⟩) | ⟨rfl, -⟩
    · have hne : ¬ (c = 1 ∧ i = m) := fun z => hn (by rw [← z.1, ← z.2]; exact hV)
      refine Eq.trans ?_ (old c i k hV (by omega) (by omega))
      show (if c = 1 ∧ i = m ∧ k = 1 then _ else if c = 1 ∧ i = m ∧ k = 0 then _ else (if c = 7 ∧ i = 4 + m then _ else if c = 1 ∧ i = m then _ else bt_v α σ x c i) k) = _
      rw [if_neg (fun z => hne ⟨z.1, z.2.1⟩), if_neg (fun z => hne ⟨z.1, z.2.1⟩), if_neg (by omega), if_neg hne]
    · show (if (1 : Nat) = 1 ∧ i = i ∧ k = 1 then (.int (nI 4) : Value) else if (1 : Nat) = 1 ∧ i = i ∧ k = 0 then .ref q else (if (1 : Nat) = 7 ∧ i = 4 + i then (fun _ => Value.null) else if (1 : Nat) = 1 ∧ i = i then bq_born tyX1 else bt_v α σ x 1 i) k) = _
      by_cases e1 : k = 1
      · subst e1
        rw [if_pos ⟨rfl, rfl, rfl⟩, bt_v4 (by simp [bt_t])]
        unfold x_mS
        rw [x_O_at]
        rfl
      · rw [if_neg (fun z => e1 z.2.2)]
        by_cases e0 : k = 0
        · subst e0
          rw [if_pos ⟨rfl, rfl, rfl⟩, bt_v3 (by simp [bt_t])]
          show _ = Value.ref (bt_ad _ 7 (4 + i))
          unfold x_mA
          rw [x_A_ad]
        · rw [if_neg (fun z => e0 z.2.2), if_neg (by omega), if_pos ⟨rfl, rfl⟩, x_dX1 k (by omega)]
          by_cases e6 : k = 6
          · rw [bt_v0 (by simp [bt_t, e6])]
            unfold x_mX
            rw [bt_lp_1, x_O_at]
            rfl
          · rw [bt_v4 (by simp [bt_t, e0, e6])]
            unfold x_mS
            rw [x_O_at, if_neg e1]
            rfl
    · omega
  · rcases hV with (hV | ⟨h, -⟩) | ⟨h, -⟩
    · exact old 8 i k hV (by omega) (by omega)
    · omega
    · omega
  · show (if (7 : Nat) = 7 ∧ n = 4 + m then [] else bt_l σ x n) = bt_l (x_mS σ m) (x_mX x m) n
    unfold bt_l x_mX
    by_cases e : n = 4 + m
    · rw [if_pos ⟨rfl, e⟩]
      subst e
      rw [if_neg (by rw [bt_sl_row hm]; decide), bt_lp_at]
    · rw [if_neg (fun z => e z.2)]
      show _ = if bt_sl n = true then σ.2.2 n else (bt_lp _ (4 + m) []).2.2 n
      rw [bt_lp_ne e]
      rfl
/-- a job -/
def x_jA (α : bt_A) (j q0 q : Nat) : bt_A := x_A (x_A α 0 j q0 6) 7 (8 + j) q 88
def x_jS (σ : bt_X) (j : Nat) (due : Int32) : bt_X := bt_lp (x_O σ 0 j (fun k => if k = 0 then nI j else if k = 1 then due else nI 0) (fun _ => none)) (8 + j) []
def x_jX (x : bt_X) (j : Nat) : bt_X := x_O x 0 j (fun _ => nI 0) (fun _ => none)
theorem x_job (J : bt_J α σ x) {j : Nat} {due : Int32} (hn : ¬ bt_V α 0 j) (hl : ¬ bt_V α 7 (8 + j))
    (kk : bq_W G M d pc lv st (bt (x_jA α j q0 q) (x_jS σ j due) (x_jX x j)) Φ) : bq_W G M d pc lv st (b_iJ (bq_n (bt α σ x) 0 j q0 (bq_born tyX0) (0, 0) 6) j q (nI j) due) Φ := by
  have hk : ∀ c' i', bt_V α c' i' → bt_ad (x_jA α j q0 q) c' i' = bt_ad α c' i' := fun c' i' h => by
    unfold x_jA
    rw [x_A_ado (fun z => hl (by rw [← z.1, ← z.2]; exact h)), x_A_ado (fun z => hn (by rw [← z.1, ← z.2]; exact h))]
  have h38 : ∀ c a, c ≠ 0 → c ≠ 7 → bt_ad (x_jA α j q0 q) c a = bt_ad α c a := fun c a h1 h2 => by
    unfold x_jA
    rw [x_A_ado (by omega), x_A_ado (by omega)]
  have old : ∀ c i k, bt_V α c i → c < 9 → c ≠ 7 → bt_v α σ x c i k = bt_v (x_jA α j q0 q) (x_jS σ j due) (x_jX x j) c i k := fun c i k hV hc h7 => by
    obtain ⟨g2, g5, g3⟩ := x_refs (k := k) J hV hc h7 hk (fun a => h38 8 a (by omega) (by omega)) (fun a => h38 4 a (by omega) (by omega))
    have hne : ¬ (c = 0 ∧ i = j) := fun z => hn (by rw [← z.1, ← z.2]; exact hV)
    exact bt_vx (by unfold x_jS; rw [bt_lp_1]; exact x_O_n hne) (x_O_n hne) (by unfold x_jS; rw [bt_lp_21]; exact x_O_nr hne) (x_O_nr hne) g2 g5 g3
  refine bq_conv (v2 := bt_v (x_jA α j q0 q) (x_jS σ j due) (x_jX x j)) (ls2 := bt_l (x_jS σ j due) (x_jX x j)) (fun c i k hV hc hk32 => ?_) (fun i k hV _ => ?_) (fun n hV => ?_) kk
  · rcases hV with (hV | ⟨rfl, rfl⟩) | ⟨rfl, -⟩
    · have hne : ¬ (c = 0 ∧ i = j) := fun z => hn (by rw [← z.1, ← z.2]; exact hV)
      refine Eq.trans ?_ (old c i k hV (by omega) (by omega))
      show (if c = 0 ∧ i = j ∧ k = 2 then _ else (if c = 7 ∧ i = 8 + j then _ else (fun k => if c = 0 ∧ i = j ∧ k = 1 then _ else if c = 0 ∧ i = j ∧ k = 0 then _ else (if c = 0 ∧ i = j then _ else bt_v α σ x c i) k)) k) = _
      rw [if_neg (fun z => hne ⟨z.1, z.2.1⟩), if_neg (by omega), if_neg (fun z => hne ⟨z.1, z.2.1⟩), if_neg (fun z => hne ⟨z.1, z.2.1⟩), if_neg hne]
    · show (if (0 : Nat) = 0 ∧ i = i ∧ k = 2 then (.ref q : Value) else (if (0 : Nat) = 7 ∧ i = 8 + i then (fun _ => Value.null) else (fun k => if (0 : Nat) = 0 ∧ i = i ∧ k = 1 then .int due else if (0 : Nat) = 0 ∧ i = i ∧ k = 0 then .int (nI i) else (if (0 : Nat) = 0 ∧ i = i then bq_born tyX0 else bt_v α σ x 0 i) k)) k) = _
      by_cases e2 : k = 2
      · subst e2
        rw [if_pos ⟨rfl, rfl, rfl⟩, bt_v3 (by simp [bt_t])]
        show _ = Value.ref (bt_ad _ 7 (8 + i))
        unfold x_jA
        rw [x_A_ad]
      · rw [if_neg (fun z => e2 z.2.2), if_neg (by omega)]
        have eS : ∀ k, (x_jS σ i due).1 0 i k = if k = 0 then nI i else if k = 1 then due else nI 0 := fun k => by
          unfold x_jS
          rw [bt_lp_1, x_O_at]
        by_cases e1 : k = 1
        · subst e1
          rw [if_pos ⟨rfl, rfl, rfl⟩, bt_v4 (by simp [bt_t]), eS]
          rfl
        · rw [if_neg (fun z => e1 z.2.2)]
          by_cases e0 : k = 0
          · subst e0
            rw [if_pos ⟨rfl, rfl, rfl⟩, bt_v4 (by simp [bt_t]), eS]
            rfl
          · rw [if_neg (fun z => e0 z.2.2), if_pos ⟨rfl, rfl⟩, x_dX0 k e2]
            by_cases e4 : k = 4
            · rw [bt_v0 (by simp [bt_t, e4])]
              unfold x_jX
              rw [x_O_at]
              rfl
            · rw [bt_v4 (by simp [bt_t, e2, e4]), eS, if_neg e0, if_neg e1]
              rfl
    · omega
  · rcases hV with (hV | ⟨h, -⟩) | ⟨h, -⟩
    · exact old 8 i k hV (by omega) (by omega)
    · omega
    · omega
  · show (if (7 : Nat) = 7 ∧ n = 8 + j then [] else bt_l σ x n) = bt_l (x_jS σ j due) (x_jX x j) n
    unfold bt_l x_jS
    by_cases e : n = 8 + j
    · rw [if_pos ⟨rfl, e⟩]
      subst e
      rw [if_pos bt_sl_ops, bt_lp_at]
    · rw [if_neg (fun z => e z.2)]
      show _ = if bt_sl n = true then (bt_lp _ (8 + j) []).2.2 n else x.2.2 n
      rw [bt_lp_ne e]
      rfl
/-- an operation -/
def x_oA (α : bt_A) (i q0 : Nat) : bt_A := x_A α 2 i q0 15
def x_oS (σ : bt_X) (i m : Nat) (n l f t : Int32) : bt_X := x_O σ 2 i (fun k => if k = 1 then n else if k = 3 then l else if k = 4 then f else if k = 5 then t else nI 0) (fun k => if k = 2 then some m else none)
def x_oX (x : bt_X) (i : Nat) : bt_X := x_O x 2 i (fun _ => nI 0) (fun _ => none)
theorem x_op (J : bt_J α σ x) {o m : Nat} {n l f t : Int32} (hn : ¬ bt_V α 2 o)
    (kk : bq_W G M d pc lv st (bt (x_oA α o q0) (x_oS σ o m n l f t) (x_oX x o)) Φ) : bq_W G M d pc lv st (b_iO (bq_n (bt α σ x) 2 o q0 (bq_born tyX2) (0, 0) 15) o (bt_ad α 0 (o / 4)) (bt_ad α 1 m) n l f t) Φ := by
  have h38 : ∀ c a, c ≠ 2 → bt_ad (x_oA α o q0) c a = bt_ad α c a := fun c a h1 => x_A_ado (by omega)
  have hk : ∀ c' i', bt_V α c' i' → bt_ad (x_oA α o q0) c' i' = bt_ad α c' i' := fun c' i' h => x_A_ado (fun z => hn (by rw [← z.1, ← z.2]; exact h))
  have old : ∀ c i k, bt_V α c i → c < 9 → c ≠ 7 → bt_v α σ x c i k = bt_v (x_oA α o q0) (x_oS σ o m n l f t) (x_oX x o) c i k := fun c i k hV hc h7 => by
    obtain ⟨g2, g5, g3⟩ := x_refs (k := k) J hV hc h7 hk (fun a => h38 8 a (by omega)) (fun a => h38 4 a (by omega))
    have hne : ¬ (c = 2 ∧ i = o) := fun z => hn (by rw [← z.1, ← z.2]; exact hV)
    exact bt_vx (x_O_n hne) (x_O_n hne) (x_O_nr hne) (x_O_nr hne) g2 g5 g3
  refine bq_conv (v2 := bt_v (x_oA α o q0) (x_oS σ o m n l f t) (x_oX x o)) (ls2 := bt_l (x_oS σ o m n l f t) (x_oX x o)) (fun c i k hV hc hk32 => ?_) (fun i k hV _ => ?_) (fun n' hV => ?_) kk
  · have eV : bq_v (b_iO (bq_n (bt α σ x) 2 o q0 (bq_born tyX2) (0, 0) 15) o (bt_ad α 0 (o / 4)) (bt_ad α 1 m) n l f t) c i k = if c = 2 ∧ i = o ∧ k = 5 then .int t else if c = 2 ∧ i = o ∧ k = 4 then .int f else if c = 2 ∧ i = o ∧ k = 3 then .int l else if c = 2 ∧ i = o ∧ k = 2 then .ref (bt_ad α 1 m) else if c = 2 ∧ i = o ∧ k = 1 then .int n else if c = 2 ∧ i = o ∧ k = 0 then .ref (bt_ad α 0 (o / 4)) else (if c = 2 ∧ i = o then bq_born tyX2 else bt_v α σ x c i) k := rfl
    rw [eV]
    rcases hV with hV | ⟨rfl, rfl⟩
    · have hne : ¬ (c = 2 ∧ i = o) := fun z => hn (by rw [← z.1, ← z.2]; exact hV)
      refine Eq.trans ?_ (old c i k hV (by omega) (by omega))
      rw [if_neg (fun z => hne ⟨z.1, z.2.1⟩), if_neg (fun z => hne ⟨z.1, z.2.1⟩), if_neg (fun z => hne ⟨z.1, z.2.1⟩), if_neg (fun z => hne ⟨z.1, z.2.1⟩), if_neg (fun z => hne ⟨z.1, z.2.1⟩), if_neg (fun z => hne ⟨z.1, z.2.1⟩), if_neg hne]
    · have eS : ∀ k, (x_oS σ i m n l f t).1 2 i k = if k = 1 then n else if k = 3 then l else if k = 4 then f else if k = 5 then t else nI 0 := fun k => by unfold x_oS; rw [x_O_at]
      have eR : ∀ k, (x_oS σ i m n l f t).2.1 2 i k = if k = 2 then some m else none := fun k => by unfold x_oS; rw [x_O_atr]
      have eX : ∀ k, (x_oX x i).1 2 i k = nI 0 := fun k => by unfold x_oX; rw [x_O_at]
      have eY : ∀ k, (x_oX x i).2.1 2 i k = none := fun k => by unfold x_oX; rw [x_O_atr]
      by_cases e5 : k = 5
      · subst e5; rw [if_pos ⟨rfl, rfl, rfl⟩, bt_v4 (by simp [bt_t]), eS]; rfl
      · rw [if_neg (fun z => e5 z.2.2)]
        by_cases e4 : k = 4
        · subst e4; rw [if_pos ⟨rfl, rfl, rfl⟩, bt_v4 (by simp [bt_t]), eS]; rfl
        · rw [if_neg (fun z => e4 z.2.2)]
          by_cases e3 : k = 3
          · subst e3; rw [if_pos ⟨rfl, rfl, rfl⟩, bt_v4 (by simp [bt_t]), eS]; rfl
          · rw [if_neg (fun z => e3 z.2.2)]
            by_cases e2 : k = 2
            · subst e2
              rw [if_pos ⟨rfl, rfl, rfl⟩, bt_v5 (by simp [bt_t]), eR]
              show _ = Value.ref (bt_ad _ 1 m)
              rw [h38 1 m (by omega)]
            · rw [if_neg (fun z => e2 z.2.2)]
              by_cases e1 : k = 1
              · subst e1; rw [if_pos ⟨rfl, rfl, rfl⟩, bt_v4 (by simp [bt_t]), eS]; rfl
              · rw [if_neg (fun z => e1 z.2.2)]
                by_cases e0 : k = 0
                · subst e0
                  rw [if_pos ⟨rfl, rfl, rfl⟩, bt_v3 (by simp [bt_t])]
                  show _ = Value.ref (bt_ad _ 0 (i / 4))
                  rw [h38 0 _ (by omega)]
                · rw [if_neg (fun z => e0 z.2.2), if_pos ⟨rfl, rfl⟩, x_dX2]
                  by_cases e67 : k = 6 ∨ k = 7
                  · rw [if_pos (by omega), bt_v5 (by rcases e67 with rfl | rfl <;> simp [bt_t]), eR, if_neg e2]
                    rfl
                  · by_cases e89 : k = 8 ∨ k = 9
                    · rw [if_pos (by omega), bt_v2 (by rcases e89 with rfl | rfl <;> simp [bt_t]), eY]
                      rfl
                    · rw [if_neg (by omega), bt_v0 (by simp only [bt_t]; rw [if_neg e0, if_neg e2, if_neg (by omega), if_neg (by omega), if_neg (by omega)]), eX]
                      rfl
  · rcases hV with hV | ⟨h, -⟩
    · exact old 8 i k hV (by omega) (by omega)
    · omega
  · rfl
end XM

