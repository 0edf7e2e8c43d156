/-! ===== rows: the class's links ===== -/
section VR
variable {σ x y : bt_X}
theorem v_rs_at {c i k : Nat} {v : Option Nat} : (bt_rs x c i k v).2.1 c i k = v := if_pos ⟨rfl, rfl, rfl⟩
theorem v_rs_ne {c i k c' i' k' : Nat} {v : Option Nat} (h : ¬ (c' = c ∧ i' = i ∧ k' = k)) : (bt_rs x c i k v).2.1 c' i' k' = x.2.1 c' i' k' := if_neg h
def v_l1 (x : bt_X) (a : Option Nat) (o : Nat) : bt_X := match a with
  | none => bt_rs (bt_rs x 2 o 8 none) 2 o 9 none
  | some b => bt_rs (bt_rs (bt_rs x 2 o 8 (some b)) 2 o 9 none) 2 b 9 (some o)
theorem v_lk : ∀ (L : List Nat) (x : bt_X) (a : Option Nat), L.Nodup → (∀ b, a = some b → b ∉ L) →
    (∀ k i : Nat, L[k]? = some i → (b_lk x a L).2.1 2 i 8 = (if k = 0 then a else L[k - 1]?) ∧ (b_lk x a L).2.1 2 i 9 = L[k + 1]?) ∧
    (∀ o, o ∉ L → (∀ b, a = some b → o ≠ b) → ∀ k, (b_lk x a L).2.1 2 o k = x.2.1 2 o k) ∧
    (∀ b, a = some b → (b_lk x a L).2.1 2 b 9 = (match L with | [] => x.2.1 2 b 9 | o :: _ => some o) ∧ (b_lk x a L).2.1 2 b 8 = x.2.1 2 b 8) ∧
    (∀ c i k, ¬ (c = 2 ∧ (k = 8 ∨ k = 9)) → (b_lk x a L).2.1 c i k = x.2.1 c i k) := by
  intro L
  induction L with
  | nil => intro x a _ _; exact ⟨fun k i h => by simp at h, fun _ _ _ _ => rfl, fun b _ => ⟨rfl, rfl⟩, fun _ _ _ _ => rfl⟩
  | cons o os ih =>
    intro x a hn ha
    rw [List.nodup_cons] at hn
    have hao : ∀ b, a = some b → b ≠ o := fun b hb z => ha b hb (by rw [z]; exact List.mem_cons_self)
    -- the state behind this one
    obtain ⟨x1, hx1⟩ : ∃ x1 : bt_X, x1 = v_l1 x a o := ⟨_, rfl⟩
    have f8 : x1.2.1 2 o 8 = a := by
      subst hx1
      cases a with
      | none => show (bt_rs (bt_rs x 2 o 8 none) 2 o 9 none).2.1 2 o 8 = none; rw [v_rs_ne (by omega), v_rs_at]
      | some b => have := hao b rfl; show (bt_rs (bt_rs (bt_rs x 2 o 8 (some b)) 2 o 9 none) 2 b 9 (some o)).2.1 2 o 8 = some b; rw [v_rs_ne (by omega), v_rs_ne (by omega), v_rs_at]
    have f9 : x1.2.1 2 o 9 = none := by
      subst hx1
      cases a with
      | none => show (bt_rs (bt_rs x 2 o 8 none) 2 o 9 none).2.1 2 o 9 = none; rw [v_rs_at]
      | some b => have := hao b rfl; show (bt_rs (bt_rs (bt_rs x 2 o 8 (some b)) 2 o 9 none) 2 b 9 (some o)).2.1 2 o 9 = none; rw [v_rs_ne (by omega), v_rs_at]
    have fo : ∀ u, u ≠ o → (∀ b, a = some b → u ≠ b) → ∀ k, x1.2.1 2 u k = x.2.1 2 u k := fun u h1 h2 k => by
      subst hx1
      cases a with
      | none => show (bt_rs (bt_rs x 2 o 8 none) 2 o 9 none).2.1 2 u k = _; rw [v_rs_ne (by omega), v_rs_ne (by omega)]
      | some b => have := h2 b rfl; show (bt_rs (bt_rs (bt_rs x 2 o 8 (some b)) 2 o 9 none) 2 b 9 (some o)).2.1 2 u k = _; rw [v_rs_ne (by omega), v_rs_ne (by omega), v_rs_ne (by omega)]
    have fb : ∀ b, a = some b → x1.2.1 2 b 9 = some o ∧ x1.2.1 2 b 8 = x.2.1 2 b 8 := fun b hb => by
      subst hb
      subst hx1
      have := hao b rfl
      refine ⟨?_, ?_⟩
      · show (bt_rs (bt_rs (bt_rs x 2 o 8 (some b)) 2 o 9 none) 2 b 9 (some o)).2.1 2 b 9 = some o
        rw [v_rs_at]
      · show (bt_rs (bt_rs (bt_rs x 2 o 8 (some b)) 2 o 9 none) 2 b 9 (some o)).2.1 2 b 8 = _
        rw [v_rs_ne (by omega), v_rs_ne (by omega), v_rs_ne (by omega)]
    have fc : ∀ c i k, ¬ (c = 2 ∧ (k = 8 ∨ k = 9)) → x1.2.1 c i k = x.2.1 c i k := fun c i k h => by
      subst hx1
      cases a with
      | none => show (bt_rs (bt_rs x 2 o 8 none) 2 o 9 none).2.1 c i k = _; rw [v_rs_ne (by omega), v_rs_ne (by omega)]
      | some b => show (bt_rs (bt_rs (bt_rs x 2 o 8 (some b)) 2 o 9 none) 2 b 9 (some o)).2.1 c i k = _; rw [v_rs_ne (by omega), v_rs_ne (by omega), v_rs_ne (by omega)]
    have eb : b_lk x a (o :: os) = b_lk x1 (some o) os := by rw [hx1]; rfl
    obtain ⟨g1, g2, g3, g4⟩ := ih x1 (some o) hn.2 (fun b hb => by cases hb; exact hn.1)
    rw [eb]
    refine ⟨fun k i hk => ?_, fun u hu hub k => ?_, fun b hb => ?_, fun c i k h => (g4 c i k h).trans (fc c i k h)⟩
    · cases k with
      | zero =>
        cases hk
        obtain ⟨q1, q2⟩ := g3 o rfl
        rw [q1, q2, f8, if_pos rfl]
        refine ⟨rfl, ?_⟩
        cases os with
        | nil => exact f9
        | cons o2 os2 => rfl
      | succ k =>
        rw [List.getElem?_cons_succ] at hk
        obtain ⟨q1, q2⟩ := g1 k i hk
        rw [q1, q2]
        refine ⟨?_, rfl⟩
        rw [if_neg (show ¬ k + 1 = 0 by omega)]
        cases k with
        | zero => rfl
        | succ k => rfl
    · have h1 : u ≠ o := fun z => hu (by rw [z]; exact List.mem_cons_self)
      rw [g2 u (fun z => hu (List.mem_cons_of_mem _ z)) (fun b hb => by cases hb; exact h1) k]
      exact fo u h1 hub k
    · have hbo := hao b hb
      have hbn : b ∉ os := fun z => ha b hb (List.mem_cons_of_mem _ z)
      rw [g2 b hbn (fun c hc => by cases hc; exact hbo) 9, g2 b hbn (fun c hc => by cases hc; exact hbo) 8]
      exact fb b hb
/-- a row is laid anew -/
def v_nr (y : bt_X) (m : Nat) (R : List Nat) : bt_X := b_link (bt_lp y (4 + m) R) m
theorem v_nr_l {m n : Nat} {R : List Nat} : (v_nr y m R).2.2 n = if n = 4 + m then R else y.2.2 n := by
  unfold v_nr
  rw [b_link_l]
  rfl
theorem v_nr_1 {m : Nat} {R : List Nat} : (v_nr y m R).1 = y.1 := by
  unfold v_nr b_link
  rw [(b_lk_g _ _ _).1]
  rfl
theorem v_nr_r {m : Nat} {R : List Nat} {c i k : Nat} (h : ¬ (c = 2 ∧ (k = 8 ∨ k = 9) ∧ i ∈ R)) (hn : R.Nodup) : (v_nr y m R).2.1 c i k = y.2.1 c i k := by
  unfold v_nr b_link
  rw [bt_lp_at]
  obtain ⟨-, g2, -, g4⟩ := v_lk R (bt_lp y (4 + m) R) none hn (fun b hb => by cases hb)
  by_cases e : c = 2 ∧ (k = 8 ∨ k = 9)
  · obtain ⟨rfl, e⟩ := e
    exact g2 i (fun z => h ⟨rfl, e, z⟩) (fun b hb => by cases hb) k
  · exact g4 c i k e
theorem v_nr_W (hW : v_W σ y) {m : Nat} {R : List Nat} (hm : m < b_nm σ) (hn : R.Nodup) (hR : ∀ i ∈ R, v_op σ i ∧ b_m σ i = m) (hc : b_cnt (v_nr y m R) (σ.2.2 0) ≤ 32)
    (hpc : ∀ m', m' < b_nm σ → ∀ i ∈ (v_nr y m R).2.2 (4 + m'), i % 4 ≠ 0 → ∃ m2, m2 < b_nm σ ∧ i - 1 ∈ (v_nr y m R).2.2 (4 + m2)) : v_W σ (v_nr y m R) := by
  obtain ⟨w1, w2, w3, w4⟩ := hW
  refine ⟨fun m' hm' => ?_, fun m' hm' k i hi => ?_, hpc, hc⟩
  · rw [v_nr_l]
    by_cases e : m' = m
    · subst e; rw [if_pos rfl]; exact ⟨hn, hR⟩
    · rw [if_neg (by omega)]; exact w1 m' hm'
  · rw [v_nr_l] at hi ⊢
    by_cases e : m' = m
    · subst e
      rw [if_pos rfl] at hi ⊢
      obtain ⟨g1, -⟩ := v_lk R (bt_lp y (4 + m') R) none hn (fun b hb => by cases hb)
      unfold v_nr b_link
      rw [bt_lp_at]
      exact g1 k i hi
    · rw [if_neg (show ¬ 4 + m' = 4 + m by omega)] at hi ⊢
      have hni : i ∉ R := fun z => e (((w1 m' hm').2 i (List.mem_of_getElem? hi)).2.symm.trans (hR i z).2)
      rw [v_nr_r (fun z => hni z.2.2) hn, v_nr_r (fun z => hni z.2.2) hn]
      exact w2 m' hm' k i hi
/-- links of any operation, placed or not, are operations -/
def v_Lk (σ y : bt_X) : Prop := ∀ i, v_op σ i → (∀ a, y.2.1 2 i 8 = some a → v_op σ a) ∧ (∀ a, y.2.1 2 i 9 = some a → v_op σ a)
theorem v_nr_Lk (h : v_Lk σ y) {m : Nat} {R : List Nat} (hn : R.Nodup) (hR : ∀ i ∈ R, v_op σ i) : v_Lk σ (v_nr y m R) := by
  intro i hi
  by_cases e : i ∈ R
  · obtain ⟨k, hk⟩ := v_mem e
    obtain ⟨g1, -⟩ := v_lk R (bt_lp y (4 + m) R) none hn (fun b hb => by cases hb)
    obtain ⟨q1, q2⟩ := g1 k i hk
    unfold v_nr b_link
    rw [bt_lp_at]
    refine ⟨fun a ha => ?_, fun a ha => ?_⟩
    · rw [q1] at ha
      split at ha
      · cases ha
      · exact hR a (List.mem_of_getElem? ha)
    · rw [q2] at ha
      exact hR a (List.mem_of_getElem? ha)
  · rw [v_nr_r (fun z => e z.2.2) hn, v_nr_r (fun z => e z.2.2) hn]
    exact h i hi
theorem v_ins_nr {m p i : Nat} : b_ins y m p i = v_nr y m ((y.2.2 (4 + m)).insertIdx p i) := rfl
theorem v_out_nr {m p : Nat} : b_out y m p = v_nr y m ((y.2.2 (4 + m)).eraseIdx p) := rfl
theorem v_outAll_nr {m j : Nat} : b_outAll y m j = v_nr y m (b_keep j (y.2.2 (4 + m))) := rfl
theorem v_exch_nr {m p a b : Nat} : b_exch y m p a b = v_nr y m (((y.2.2 (4 + m)).set p b).set (p + 1) a) := rfl
end VR

