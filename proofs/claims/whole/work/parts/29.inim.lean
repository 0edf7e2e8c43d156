/-! ===== the reference's constructor ===== -/
/-- an array for field k -/
def m_iA (q : Nat → Nat) (w : bq_O) (z : Nat × Nat × Nat) : bq_O := bq_f (bq_n w 8 (10 + z.1) (q z.1) (fun _ => defaultValue (bp_ty z.2.1)) (z.2.1, z.2.2) (1 + z.2.2)) 6 0 z.1 (.ref (q z.1))
def m_aL : List (Nat × Nat × Nat) := [(2, 0, 4), (3, 0, 4), (4, 0, 4), (5, 0, 4), (6, 0, 128), (8, 0, 8), (9, 0, 8), (10, 1, 8), (11, 0, 32), (12, 0, 32), (13, 0, 32), (14, 0, 32), (15, 0, 16), (16, 1, 32), (17, 0, 32), (18, 0, 32), (19, 0, 32), (20, 0, 32), (22, 0, 32), (23, 0, 256), (24, 0, 256)]
def m_iAs (q : Nat → Nat) (w : bq_O) (l : List (Nat × Nat × Nat)) : bq_O := l.foldl (m_iA q) w
theorem m_iA_V {q : Nat → Nat} {w : bq_O} {z : Nat × Nat × Nat} {c i : Nat} : bq_V (m_iA q w z) c i ↔ bq_V w c i ∨ (c = 8 ∧ i = 10 + z.1) := Iff.rfl
theorem m_iA_ad {q : Nat → Nat} {w : bq_O} {z : Nat × Nat × Nat} {c i : Nat} : bq_ad (m_iA q w z) c i = if c = 8 ∧ i = 10 + z.1 then q z.1 else bq_ad w c i := rfl
theorem m_iA_v {q : Nat → Nat} {w : bq_O} {z : Nat × Nat × Nat} {c i k : Nat} : bq_v (m_iA q w z) c i k = if c = 6 ∧ i = 0 ∧ k = z.1 then .ref (q z.1) else if c = 8 ∧ i = 10 + z.1 then defaultValue (bp_ty z.2.1) else bq_v w c i k := by
  show (if c = 6 ∧ i = 0 ∧ k = z.1 then Value.ref (q z.1) else (if c = 8 ∧ i = 10 + z.1 then (fun _ => defaultValue (bp_ty z.2.1)) else bq_v w c i) k) = _
  split
  · rfl
  · split <;> rfl
theorem m_iA_at {q : Nat → Nat} {w : bq_O} {z : Nat × Nat × Nat} {i : Nat} : bq_at (m_iA q w z) i = if (8 : Nat) = 8 ∧ i = 10 + z.1 then (z.2.1, z.2.2) else bq_at w i := rfl
theorem m_iA_ls {q : Nat → Nat} {w : bq_O} {z : Nat × Nat × Nat} {i : Nat} : bq_ls (m_iA q w z) i = bq_ls w i := by
  show (if (8 : Nat) = 7 ∧ i = 10 + z.1 then [] else bq_ls w i) = _
  exact if_neg (fun z => by omega)
theorem m_iA_us {q : Nat → Nat} {w : bq_O} {z : Nat × Nat × Nat} : bq_us (m_iA q w z) = bq_us w + (1 + z.2.2) := rfl
section MIAS
variable {q : Nat → Nat}
theorem m_iAs_V : ∀ (l : List (Nat × Nat × Nat)) (w : bq_O) (c i : Nat), bq_V (m_iAs q w l) c i ↔ bq_V w c i ∨ (c = 8 ∧ ∃ z ∈ l, i = 10 + z.1) := by
  intro l
  induction l with
  | nil => intro w c i; exact ⟨fun h => Or.inl h, fun h => h.elim id (fun h => by obtain ⟨-, z, hz, -⟩ := h; cases hz)⟩
  | cons z l ih =>
    intro w c i
    show bq_V (m_iAs q (m_iA q w z) l) c i ↔ _
    rw [ih, m_iA_V]
    constructor
    · rintro ((h | ⟨h, e⟩) | ⟨h, y, hy, e⟩)
      · exact Or.inl h
      · exact Or.inr ⟨h, z, List.mem_cons_self, e⟩
      · exact Or.inr ⟨h, y, List.mem_cons_of_mem _ hy, e⟩
    · rintro (h | ⟨h, y, hy, e⟩)
      · exact Or.inl (Or.inl h)
      · rcases List.mem_cons.mp hy with rfl | hy
        · exact Or.inl (Or.inr ⟨h, e⟩)
        · exact Or.inr ⟨h, y, hy, e⟩
theorem m_iAs_no : ∀ (l : List (Nat × Nat × Nat)) (w : bq_O) (c i : Nat), ¬ (c = 8 ∧ ∃ z ∈ l, i = 10 + z.1) → bq_ad (m_iAs q w l) c i = bq_ad w c i ∧ (∀ k, ¬ (c = 6 ∧ i = 0 ∧ ∃ z ∈ l, k = z.1) → bq_v (m_iAs q w l) c i k = bq_v w c i k) ∧ (c = 8 → bq_at (m_iAs q w l) i = bq_at w i) := by
  intro l
  induction l with
  | nil => intro w c i _; exact ⟨rfl, fun _ _ => rfl, fun _ => rfl⟩
  | cons z l ih =>
    intro w c i h
    have h1 : ¬ (c = 8 ∧ i = 10 + z.1) := fun e => h ⟨e.1, z, List.mem_cons_self, e.2⟩
    obtain ⟨g1, g2, g3⟩ := ih (m_iA q w z) c i (fun e => h ⟨e.1, e.2.choose, List.mem_cons_of_mem _ e.2.choose_spec.1, e.2.choose_spec.2⟩)
    refine ⟨g1.trans (by rw [m_iA_ad, if_neg h1]), fun k hk => (g2 k (fun e => hk ⟨e.1, e.2.1, e.2.2.choose, List.mem_cons_of_mem _ e.2.2.choose_spec.1, e.2.2.choose_spec.2⟩)).trans ?_, fun hc => (g3 hc).trans ?_⟩
    · rw [m_iA_v, if_neg (fun e => hk ⟨e.1, e.2.1, z, List.mem_cons_self, e.2.2⟩), if_neg h1]
    · rw [m_iA_at, if_neg (fun e => h1 ⟨hc, e.2⟩)]
theorem m_iAs_at : ∀ (l : List (Nat × Nat × Nat)) (w : bq_O), (l.map Prod.fst).Nodup → ∀ z ∈ l, bq_ad (m_iAs q w l) 8 (10 + z.1) = q z.1 ∧ bq_v (m_iAs q w l) 6 0 z.1 = .ref (q z.1) ∧ (∀ k, bq_v (m_iAs q w l) 8 (10 + z.1) k = defaultValue (bp_ty z.2.1)) ∧ bq_at (m_iAs q w l) (10 + z.1) = z.2 := by
  intro l
  induction l with
  | nil => intro w _ z hz; cases hz
  | cons y l ih =>
    intro w hn z hz
    rw [List.map_cons, List.nodup_cons] at hn
    rcases List.mem_cons.mp hz with rfl | hz
    · have hx : ∀ u ∈ l, u.1 ≠ z.1 := fun u hu e => hn.1 (by rw [← e]; exact List.mem_map_of_mem hu)
      obtain ⟨g1, g2, g3⟩ := m_iAs_no l (m_iA q w z) 8 (10 + z.1) (fun e => by obtain ⟨-, u, hu, e⟩ := e; exact hx u hu (by omega))
      obtain ⟨-, g5, -⟩ := m_iAs_no l (m_iA q w z) 6 0 (fun e => by omega)
      refine ⟨g1.trans (by rw [m_iA_ad, if_pos ⟨rfl, rfl⟩]), (g5 _ (fun e => by obtain ⟨-, -, u, hu, e⟩ := e; exact hx u hu e.symm)).trans (by rw [m_iA_v, if_pos ⟨rfl, rfl, rfl⟩]), fun k => (g2 k (fun e => by omega)).trans (by rw [m_iA_v, if_neg (fun e => by omega), if_pos ⟨rfl, rfl⟩]), (g3 rfl).trans (by rw [m_iA_at, if_pos ⟨rfl, rfl⟩])⟩
    · exact ih (m_iA q w y) hn.2 z hz
theorem m_iAs_ls : ∀ (l : List (Nat × Nat × Nat)) (w : bq_O) (i : Nat), bq_ls (m_iAs q w l) i = bq_ls w i := by
  intro l
  induction l with
  | nil => intro w i; rfl
  | cons y l ih => intro w i; exact (ih _ _).trans m_iA_ls
end MIAS
set_option maxRecDepth 100000 in
set_option maxHeartbeats 2000000 in
theorem i_model {G : bp_X} {w : bq_O} (hN : ∀ i, 12 ≤ i → ¬ bq_V w 8 i) (hV : bq_V w 6 0) (hr : bq_us w + 1100 ≤ bp_max) : bq_S G mX6_init 5 [.ref (bq_ad w 6 0)] w (bq_val (fun v w2 => v = none ∧ ∃ q : Nat → Nat, w2 = bq_f (m_iAs q w m_aL) 6 0 0 (.int (nI 0)))) := by
  refine bq_ofW (by decide +kernel) rfl (Nat.le_of_ble_eq_true rfl) ?_
  have hv0 := hV
  have ha0 : bq_ad w 6 0 = bq_ad w 6 0 := rfl
  have hx0 : ∀ i, 11 < i → ¬ bq_V w 8 i := fun i hi => hN i hi
  have hn0 : ¬ bq_V w 8 12 := hN 12 (by decide)
  refine bq_aload_n (i := 0) dX6_init_0 rfl ?_
  refine bq_objInit dX6_init_1 ⟨ml_X6_1, ow_1, ow_2⟩ (by decide) (Nat.le_of_ble_eq_true rfl) ?_
  have s0 : bq_us w = bq_us w := rfl
  refine bq_aload_n (i := 0) dX6_init_4 rfl ?_
  refine bq_iconst (v := (nI 4)) dX6_init_5 (by decide) ?_
  refine bq_newa (N := 4) (ti := 0) (i := 12) dX6_init_6 (by decide) rfl aw_0 rfl (by decide) hn0 (by omega) (fun q2 => ?_)
  rw [bq_n_ad]
  refine bq_putfi (c := 6) (i := 0) (k := 2) (ha0.trans (bq_n_ado (by decide)).symm) dX6_init_8 fl_X6_7 (Or.inr ⟨rfl, rfl⟩) (Or.inl hv0) (by decide) rfl rfl ?_
  have hv1 : bq_V (bq_f (bq_n w 8 12 q2 (fun _ => defaultValue (bp_ty 0)) (0, 4) (1 + 4)) 6 0 2 (.ref q2)) 6 0 := Or.inl hv0
  have ha1 : bq_ad w 6 0 = bq_ad (bq_f (bq_n w 8 12 q2 (fun _ => defaultValue (bp_ty 0)) (0, 4) (1 + 4)) 6 0 2 (.ref q2)) 6 0 := ha0
  have hx1 : ∀ i, 12 < i → ¬ bq_V (bq_f (bq_n w 8 12 q2 (fun _ => defaultValue (bp_ty 0)) (0, 4) (1 + 4)) 6 0 2 (.ref q2)) 8 i := fun i hi z => z.elim (hx0 i (by omega)) (fun z => by omega)
  have hu1 : bq_us (bq_f (bq_n w 8 12 q2 (fun _ => defaultValue (bp_ty 0)) (0, 4) (1 + 4)) 6 0 2 (.ref q2)) = bq_us w + (1 + 4) := rfl
  have e1 : (bq_f (bq_n w 8 12 q2 (fun _ => defaultValue (bp_ty 0)) (0, 4) (1 + 4)) 6 0 2 (.ref q2)) = m_iA (fun _ => q2) w (2, 0, 4) := rfl
  generalize hw1 : (bq_f (bq_n w 8 12 q2 (fun _ => defaultValue (bp_ty 0)) (0, 4) (1 + 4)) 6 0 2 (.ref q2)) = w1 at hv1 ha1 hx1 hu1 e1 ⊢
  have hn1 : ¬ bq_V w1 8 13 := hx1 _ (by decide)
  refine bq_aload_n (i := 0) dX6_init_11 rfl ?_
  refine bq_iconst (v := (nI 4)) dX6_init_12 (by decide) ?_
  refine bq_newa (N := 4) (ti := 0) (i := 13) dX6_init_13 (by decide) rfl aw_0 rfl (by decide) hn1 (by omega) (fun q3 => ?_)
  rw [bq_n_ad]
  refine bq_putfi (c := 6) (i := 0) (k := 3) (ha1.trans (bq_n_ado (by decide)).symm) dX6_init_15 fl_X6_13 (Or.inr ⟨rfl, rfl⟩) (Or.inl hv1) (by decide) rfl rfl ?_
  have hv2 : bq_V (bq_f (bq_n w1 8 13 q3 (fun _ => defaultValue (bp_ty 0)) (0, 4) (1 + 4)) 6 0 3 (.ref q3)) 6 0 := Or.inl hv1
  have ha2 : bq_ad w 6 0 = bq_ad (bq_f (bq_n w1 8 13 q3 (fun _ => defaultValue (bp_ty 0)) (0, 4) (1 + 4)) 6 0 3 (.ref q3)) 6 0 := ha1
  have hx2 : ∀ i, 13 < i → ¬ bq_V (bq_f (bq_n w1 8 13 q3 (fun _ => defaultValue (bp_ty 0)) (0, 4) (1 + 4)) 6 0 3 (.ref q3)) 8 i := fun i hi z => z.elim (hx1 i (by omega)) (fun z => by omega)
  have hu2 : bq_us (bq_f (bq_n w1 8 13 q3 (fun _ => defaultValue (bp_ty 0)) (0, 4) (1 + 4)) 6 0 3 (.ref q3)) = bq_us w1 + (1 + 4) := rfl
  have e2 : (bq_f (bq_n w1 8 13 q3 (fun _ => defaultValue (bp_ty 0)) (0, 4) (1 + 4)) 6 0 3 (.ref q3)) = m_iA (fun _ => q3) w1 (3, 0, 4) := rfl
  generalize hw2 : (bq_f (bq_n w1 8 13 q3 (fun _ => defaultValue (bp_ty 0)) (0, 4) (1 + 4)) 6 0 3 (.ref q3)) = w2 at hv2 ha2 hx2 hu2 e2 ⊢
  have hn2 : ¬ bq_V w2 8 14 := hx2 _ (by decide)
  refine bq_aload_n (i := 0) dX6_init_18 rfl ?_
  refine bq_iconst (v := (nI 4)) dX6_init_19 (by decide) ?_
  refine bq_newa (N := 4) (ti := 0) (i := 14) dX6_init_20 (by decide) rfl aw_0 rfl (by decide) hn2 (by omega) (fun q4 => ?_)
  rw [bq_n_ad]
  refine bq_putfi (c := 6) (i := 0) (k := 4) (ha2.trans (bq_n_ado (by decide)).symm) dX6_init_22 fl_X6_16 (Or.inr ⟨rfl, rfl⟩) (Or.inl hv2) (by decide) rfl rfl ?_
  have hv3 : bq_V (bq_f (bq_n w2 8 14 q4 (fun _ => defaultValue (bp_ty 0)) (0, 4) (1 + 4)) 6 0 4 (.ref q4)) 6 0 := Or.inl hv2
  have ha3 : bq_ad w 6 0 = bq_ad (bq_f (bq_n w2 8 14 q4 (fun _ => defaultValue (bp_ty 0)) (0, 4) (1 + 4)) 6 0 4 (.ref q4)) 6 0 := ha2
  have hx3 : ∀ i, 14 < i → ¬ bq_V (bq_f (bq_n w2 8 14 q4 (fun _ => defaultValue (bp_ty 0)) (0, 4) (1 + 4)) 6 0 4 (.ref q4)) 8 i := fun i hi z => z.elim (hx2 i (by omega)) (fun z => by omega)
  have hu3 : bq_us (bq_f (bq_n w2 8 14 q4 (fun _ => defaultValue (bp_ty 0)) (0, 4) (1 + 4)) 6 0 4 (.ref q4)) = bq_us w2 + (1 + 4) := rfl
  have e3 : (bq_f (bq_n w2 8 14 q4 (fun _ => defaultValue (bp_ty 0)) (0, 4) (1 + 4)) 6 0 4 (.ref q4)) = m_iA (fun _ => q4) w2 (4, 0, 4) := rfl
  generalize hw3 : (bq_f (bq_n w2 8 14 q4 (fun _ => defaultValue (bp_ty 0)) (0, 4) (1 + 4)) 6 0 4 (.ref q4)) = w3 at hv3 ha3 hx3 hu3 e3 ⊢
  have hn3 : ¬ bq_V w3 8 15 := hx3 _ (by decide)
  refine bq_aload_n (i := 0) dX6_init_25 rfl ?_
  refine bq_iconst (v := (nI 4)) dX6_init_26 (by decide) ?_
  refine bq_newa (N := 4) (ti := 0) (i := 15) dX6_init_27 (by decide) rfl aw_0 rfl (by decide) hn3 (by omega) (fun q5 => ?_)
  rw [bq_n_ad]
  refine bq_putfi (c := 6) (i := 0) (k := 5) (ha3.trans (bq_n_ado (by decide)).symm) dX6_init_29 fl_X6_19 (Or.inr ⟨rfl, rfl⟩) (Or.inl hv3) (by decide) rfl rfl ?_
  have hv4 : bq_V (bq_f (bq_n w3 8 15 q5 (fun _ => defaultValue (bp_ty 0)) (0, 4) (1 + 4)) 6 0 5 (.ref q5)) 6 0 := Or.inl hv3
  have ha4 : bq_ad w 6 0 = bq_ad (bq_f (bq_n w3 8 15 q5 (fun _ => defaultValue (bp_ty 0)) (0, 4) (1 + 4)) 6 0 5 (.ref q5)) 6 0 := ha3
  have hx4 : ∀ i, 15 < i → ¬ bq_V (bq_f (bq_n w3 8 15 q5 (fun _ => defaultValue (bp_ty 0)) (0, 4) (1 + 4)) 6 0 5 (.ref q5)) 8 i := fun i hi z => z.elim (hx3 i (by omega)) (fun z => by omega)
  have hu4 : bq_us (bq_f (bq_n w3 8 15 q5 (fun _ => defaultValue (bp_ty 0)) (0, 4) (1 + 4)) 6 0 5 (.ref q5)) = bq_us w3 + (1 + 4) := rfl
  have e4 : (bq_f (bq_n w3 8 15 q5 (fun _ => defaultValue (bp_ty 0)) (0, 4) (1 + 4)) 6 0 5 (.ref q5)) = m_iA (fun _ => q5) w3 (5, 0, 4) := rfl
  generalize hw4 : (bq_f (bq_n w3 8 15 q5 (fun _ => defaultValue (bp_ty 0)) (0, 4) (1 + 4)) 6 0 5 (.ref q5)) = w4 at hv4 ha4 hx4 hu4 e4 ⊢
  have hn4 : ¬ bq_V w4 8 16 := hx4 _ (by decide)
  refine bq_aload_n (i := 0) dX6_init_32 rfl ?_
  refine bq_sipush (v := (nI 128)) dX6_init_33 (by decide) ?_
  refine bq_newa (N := 128) (ti := 0) (i := 16) dX6_init_36 (by decide) rfl aw_0 rfl (by decide) hn4 (by omega) (fun q6 => ?_)
  rw [bq_n_ad]
  refine bq_putfi (c := 6) (i := 0) (k := 6) (ha4.trans (bq_n_ado (by decide)).symm) dX6_init_38 fl_X6_22 (Or.inr ⟨rfl, rfl⟩) (Or.inl hv4) (by decide) rfl rfl ?_
  have hv5 : bq_V (bq_f (bq_n w4 8 16 q6 (fun _ => defaultValue (bp_ty 0)) (0, 128) (1 + 128)) 6 0 6 (.ref q6)) 6 0 := Or.inl hv4
  have ha5 : bq_ad w 6 0 = bq_ad (bq_f (bq_n w4 8 16 q6 (fun _ => defaultValue (bp_ty 0)) (0, 128) (1 + 128)) 6 0 6 (.ref q6)) 6 0 := ha4
  have hx5 : ∀ i, 16 < i → ¬ bq_V (bq_f (bq_n w4 8 16 q6 (fun _ => defaultValue (bp_ty 0)) (0, 128) (1 + 128)) 6 0 6 (.ref q6)) 8 i := fun i hi z => z.elim (hx4 i (by omega)) (fun z => by omega)
  have hu5 : bq_us (bq_f (bq_n w4 8 16 q6 (fun _ => defaultValue (bp_ty 0)) (0, 128) (1 + 128)) 6 0 6 (.ref q6)) = bq_us w4 + (1 + 128) := rfl
  have e5 : (bq_f (bq_n w4 8 16 q6 (fun _ => defaultValue (bp_ty 0)) (0, 128) (1 + 128)) 6 0 6 (.ref q6)) = m_iA (fun _ => q6) w4 (6, 0, 128) := rfl
  generalize hw5 : (bq_f (bq_n w4 8 16 q6 (fun _ => defaultValue (bp_ty 0)) (0, 128) (1 + 128)) 6 0 6 (.ref q6)) = w5 at hv5 ha5 hx5 hu5 e5 ⊢
  have hn5 : ¬ bq_V w5 8 18 := hx5 _ (by decide)
  refine bq_aload_n (i := 0) dX6_init_41 rfl ?_
  refine bq_bipush (v := (nI 8)) dX6_init_42 (by decide) ?_
  refine bq_newa (N := 8) (ti := 0) (i := 18) dX6_init_44 (by decide) rfl aw_0 rfl (by decide) hn5 (by omega) (fun q8 => ?_)
  rw [bq_n_ad]
  refine bq_putfi (c := 6) (i := 0) (k := 8) (ha5.trans (bq_n_ado (by decide)).symm) dX6_init_46 fl_X6_25 (Or.inr ⟨rfl, rfl⟩) (Or.inl hv5) (by decide) rfl rfl ?_
  have hv6 : bq_V (bq_f (bq_n w5 8 18 q8 (fun _ => defaultValue (bp_ty 0)) (0, 8) (1 + 8)) 6 0 8 (.ref q8)) 6 0 := Or.inl hv5
  have ha6 : bq_ad w 6 0 = bq_ad (bq_f (bq_n w5 8 18 q8 (fun _ => defaultValue (bp_ty 0)) (0, 8) (1 + 8)) 6 0 8 (.ref q8)) 6 0 := ha5
  have hx6 : ∀ i, 18 < i → ¬ bq_V (bq_f (bq_n w5 8 18 q8 (fun _ => defaultValue (bp_ty 0)) (0, 8) (1 + 8)) 6 0 8 (.ref q8)) 8 i := fun i hi z => z.elim (hx5 i (by omega)) (fun z => by omega)
  have hu6 : bq_us (bq_f (bq_n w5 8 18 q8 (fun _ => defaultValue (bp_ty 0)) (0, 8) (1 + 8)) 6 0 8 (.ref q8)) = bq_us w5 + (1 + 8) := rfl
  have e6 : (bq_f (bq_n w5 8 18 q8 (fun _ => defaultValue (bp_ty 0)) (0, 8) (1 + 8)) 6 0 8 (.ref q8)) = m_iA (fun _ => q8) w5 (8, 0, 8) := rfl
  generalize hw6 : (bq_f (bq_n w5 8 18 q8 (fun _ => defaultValue (bp_ty 0)) (0, 8) (1 + 8)) 6 0 8 (.ref q8)) = w6 at hv6 ha6 hx6 hu6 e6 ⊢
  have hn6 : ¬ bq_V w6 8 19 := hx6 _ (by decide)
  refine bq_aload_n (i := 0) dX6_init_49 rfl ?_
  refine bq_bipush (v := (nI 8)) dX6_init_50 (by decide) ?_
  refine bq_newa (N := 8) (ti := 0) (i := 19) dX6_init_52 (by decide) rfl aw_0 rfl (by decide) hn6 (by omega) (fun q9 => ?_)
  rw [bq_n_ad]
  refine bq_putfi (c := 6) (i := 0) (k := 9) (ha6.trans (bq_n_ado (by decide)).symm) dX6_init_54 fl_X6_28 (Or.inr ⟨rfl, rfl⟩) (Or.inl hv6) (by decide) rfl rfl ?_
  have hv7 : bq_V (bq_f (bq_n w6 8 19 q9 (fun _ => defaultValue (bp_ty 0)) (0, 8) (1 + 8)) 6 0 9 (.ref q9)) 6 0 := Or.inl hv6
  have ha7 : bq_ad w 6 0 = bq_ad (bq_f (bq_n w6 8 19 q9 (fun _ => defaultValue (bp_ty 0)) (0, 8) (1 + 8)) 6 0 9 (.ref q9)) 6 0 := ha6
  have hx7 : ∀ i, 19 < i → ¬ bq_V (bq_f (bq_n w6 8 19 q9 (fun _ => defaultValue (bp_ty 0)) (0, 8) (1 + 8)) 6 0 9 (.ref q9)) 8 i := fun i hi z => z.elim (hx6 i (by omega)) (fun z => by omega)
  have hu7 : bq_us (bq_f (bq_n w6 8 19 q9 (fun _ => defaultValue (bp_ty 0)) (0, 8) (1 + 8)) 6 0 9 (.ref q9)) = bq_us w6 + (1 + 8) := rfl
  have e7 : (bq_f (bq_n w6 8 19 q9 (fun _ => defaultValue (bp_ty 0)) (0, 8) (1 + 8)) 6 0 9 (.ref q9)) = m_iA (fun _ => q9) w6 (9, 0, 8) := rfl
  generalize hw7 : (bq_f (bq_n w6 8 19 q9 (fun _ => defaultValue (bp_ty 0)) (0, 8) (1 + 8)) 6 0 9 (.ref q9)) = w7 at hv7 ha7 hx7 hu7 e7 ⊢
  have hn7 : ¬ bq_V w7 8 20 := hx7 _ (by decide)
  refine bq_aload_n (i := 0) dX6_init_57 rfl ?_
  refine bq_bipush (v := (nI 8)) dX6_init_58 (by decide) ?_
  refine bq_newa (N := 8) (ti := 1) (i := 20) dX6_init_60 (by decide) rfl aw_1 rfl (by decide) hn7 (by omega) (fun q10 => ?_)
  rw [bq_n_ad]
  refine bq_putfi (c := 6) (i := 0) (k := 10) (ha7.trans (bq_n_ado (by decide)).symm) dX6_init_62 fl_X6_31 (Or.inr ⟨rfl, rfl⟩) (Or.inl hv7) (by decide) rfl rfl ?_
  have hv8 : bq_V (bq_f (bq_n w7 8 20 q10 (fun _ => defaultValue (bp_ty 1)) (1, 8) (1 + 8)) 6 0 10 (.ref q10)) 6 0 := Or.inl hv7
  have ha8 : bq_ad w 6 0 = bq_ad (bq_f (bq_n w7 8 20 q10 (fun _ => defaultValue (bp_ty 1)) (1, 8) (1 + 8)) 6 0 10 (.ref q10)) 6 0 := ha7
  have hx8 : ∀ i, 20 < i → ¬ bq_V (bq_f (bq_n w7 8 20 q10 (fun _ => defaultValue (bp_ty 1)) (1, 8) (1 + 8)) 6 0 10 (.ref q10)) 8 i := fun i hi z => z.elim (hx7 i (by omega)) (fun z => by omega)
  have hu8 : bq_us (bq_f (bq_n w7 8 20 q10 (fun _ => defaultValue (bp_ty 1)) (1, 8) (1 + 8)) 6 0 10 (.ref q10)) = bq_us w7 + (1 + 8) := rfl
  have e8 : (bq_f (bq_n w7 8 20 q10 (fun _ => defaultValue (bp_ty 1)) (1, 8) (1 + 8)) 6 0 10 (.ref q10)) = m_iA (fun _ => q10) w7 (10, 1, 8) := rfl
  generalize hw8 : (bq_f (bq_n w7 8 20 q10 (fun _ => defaultValue (bp_ty 1)) (1, 8) (1 + 8)) 6 0 10 (.ref q10)) = w8 at hv8 ha8 hx8 hu8 e8 ⊢
  have hn8 : ¬ bq_V w8 8 21 := hx8 _ (by decide)
  refine bq_aload_n (i := 0) dX6_init_65 rfl ?_
  refine bq_bipush (v := (nI 32)) dX6_init_66 (by decide) ?_
  refine bq_newa (N := 32) (ti := 0) (i := 21) dX6_init_68 (by decide) rfl aw_0 rfl (by decide) hn8 (by omega) (fun q11 => ?_)
  rw [bq_n_ad]
  refine bq_putfi (c := 6) (i := 0) (k := 11) (ha8.trans (bq_n_ado (by decide)).symm) dX6_init_70 fl_X6_35 (Or.inr ⟨rfl, rfl⟩) (Or.inl hv8) (by decide) rfl rfl ?_
  have hv9 : bq_V (bq_f (bq_n w8 8 21 q11 (fun _ => defaultValue (bp_ty 0)) (0, 32) (1 + 32)) 6 0 11 (.ref q11)) 6 0 := Or.inl hv8
  have ha9 : bq_ad w 6 0 = bq_ad (bq_f (bq_n w8 8 21 q11 (fun _ => defaultValue (bp_ty 0)) (0, 32) (1 + 32)) 6 0 11 (.ref q11)) 6 0 := ha8
  have hx9 : ∀ i, 21 < i → ¬ bq_V (bq_f (bq_n w8 8 21 q11 (fun _ => defaultValue (bp_ty 0)) (0, 32) (1 + 32)) 6 0 11 (.ref q11)) 8 i := fun i hi z => z.elim (hx8 i (by omega)) (fun z => by omega)
  have hu9 : bq_us (bq_f (bq_n w8 8 21 q11 (fun _ => defaultValue (bp_ty 0)) (0, 32) (1 + 32)) 6 0 11 (.ref q11)) = bq_us w8 + (1 + 32) := rfl
  have e9 : (bq_f (bq_n w8 8 21 q11 (fun _ => defaultValue (bp_ty 0)) (0, 32) (1 + 32)) 6 0 11 (.ref q11)) = m_iA (fun _ => q11) w8 (11, 0, 32) := rfl
  generalize hw9 : (bq_f (bq_n w8 8 21 q11 (fun _ => defaultValue (bp_ty 0)) (0, 32) (1 + 32)) 6 0 11 (.ref q11)) = w9 at hv9 ha9 hx9 hu9 e9 ⊢
  have hn9 : ¬ bq_V w9 8 22 := hx9 _ (by decide)
  refine bq_aload_n (i := 0) dX6_init_73 rfl ?_
  refine bq_bipush (v := (nI 32)) dX6_init_74 (by decide) ?_
  refine bq_newa (N := 32) (ti := 0) (i := 22) dX6_init_76 (by decide) rfl aw_0 rfl (by decide) hn9 (by omega) (fun q12 => ?_)
  rw [bq_n_ad]
  refine bq_putfi (c := 6) (i := 0) (k := 12) (ha9.trans (bq_n_ado (by decide)).symm) dX6_init_78 fl_X6_38 (Or.inr ⟨rfl, rfl⟩) (Or.inl hv9) (by decide) rfl rfl ?_
  have hv10 : bq_V (bq_f (bq_n w9 8 22 q12 (fun _ => defaultValue (bp_ty 0)) (0, 32) (1 + 32)) 6 0 12 (.ref q12)) 6 0 := Or.inl hv9
  have ha10 : bq_ad w 6 0 = bq_ad (bq_f (bq_n w9 8 22 q12 (fun _ => defaultValue (bp_ty 0)) (0, 32) (1 + 32)) 6 0 12 (.ref q12)) 6 0 := ha9
  have hx10 : ∀ i, 22 < i → ¬ bq_V (bq_f (bq_n w9 8 22 q12 (fun _ => defaultValue (bp_ty 0)) (0, 32) (1 + 32)) 6 0 12 (.ref q12)) 8 i := fun i hi z => z.elim (hx9 i (by omega)) (fun z => by omega)
  have hu10 : bq_us (bq_f (bq_n w9 8 22 q12 (fun _ => defaultValue (bp_ty 0)) (0, 32) (1 + 32)) 6 0 12 (.ref q12)) = bq_us w9 + (1 + 32) := rfl
  have e10 : (bq_f (bq_n w9 8 22 q12 (fun _ => defaultValue (bp_ty 0)) (0, 32) (1 + 32)) 6 0 12 (.ref q12)) = m_iA (fun _ => q12) w9 (12, 0, 32) := rfl
  generalize hw10 : (bq_f (bq_n w9 8 22 q12 (fun _ => defaultValue (bp_ty 0)) (0, 32) (1 + 32)) 6 0 12 (.ref q12)) = w10 at hv10 ha10 hx10 hu10 e10 ⊢
  have hn10 : ¬ bq_V w10 8 23 := hx10 _ (by decide)
  refine bq_aload_n (i := 0) dX6_init_81 rfl ?_
  refine bq_bipush (v := (nI 32)) dX6_init_82 (by decide) ?_
  refine bq_newa (N := 32) (ti := 0) (i := 23) dX6_init_84 (by decide) rfl aw_0 rfl (by decide) hn10 (by omega) (fun q13 => ?_)
  rw [bq_n_ad]
  refine bq_putfi (c := 6) (i := 0) (k := 13) (ha10.trans (bq_n_ado (by decide)).symm) dX6_init_86 fl_X6_41 (Or.inr ⟨rfl, rfl⟩) (Or.inl hv10) (by decide) rfl rfl ?_
  have hv11 : bq_V (bq_f (bq_n w10 8 23 q13 (fun _ => defaultValue (bp_ty 0)) (0, 32) (1 + 32)) 6 0 13 (.ref q13)) 6 0 := Or.inl hv10
  have ha11 : bq_ad w 6 0 = bq_ad (bq_f (bq_n w10 8 23 q13 (fun _ => defaultValue (bp_ty 0)) (0, 32) (1 + 32)) 6 0 13 (.ref q13)) 6 0 := ha10
  have hx11 : ∀ i, 23 < i → ¬ bq_V (bq_f (bq_n w10 8 23 q13 (fun _ => defaultValue (bp_ty 0)) (0, 32) (1 + 32)) 6 0 13 (.ref q13)) 8 i := fun i hi z => z.elim (hx10 i (by omega)) (fun z => by omega)
  have hu11 : bq_us (bq_f (bq_n w10 8 23 q13 (fun _ => defaultValue (bp_ty 0)) (0, 32) (1 + 32)) 6 0 13 (.ref q13)) = bq_us w10 + (1 + 32) := rfl
  have e11 : (bq_f (bq_n w10 8 23 q13 (fun _ => defaultValue (bp_ty 0)) (0, 32) (1 + 32)) 6 0 13 (.ref q13)) = m_iA (fun _ => q13) w10 (13, 0, 32) := rfl
  generalize hw11 : (bq_f (bq_n w10 8 23 q13 (fun _ => defaultValue (bp_ty 0)) (0, 32) (1 + 32)) 6 0 13 (.ref q13)) = w11 at hv11 ha11 hx11 hu11 e11 ⊢
  have hn11 : ¬ bq_V w11 8 24 := hx11 _ (by decide)
  refine bq_aload_n (i := 0) dX6_init_89 rfl ?_
  refine bq_bipush (v := (nI 32)) dX6_init_90 (by decide) ?_
  refine bq_newa (N := 32) (ti := 0) (i := 24) dX6_init_92 (by decide) rfl aw_0 rfl (by decide) hn11 (by omega) (fun q14 => ?_)
  rw [bq_n_ad]
  refine bq_putfi (c := 6) (i := 0) (k := 14) (ha11.trans (bq_n_ado (by decide)).symm) dX6_init_94 fl_X6_44 (Or.inr ⟨rfl, rfl⟩) (Or.inl hv11) (by decide) rfl rfl ?_
  have hv12 : bq_V (bq_f (bq_n w11 8 24 q14 (fun _ => defaultValue (bp_ty 0)) (0, 32) (1 + 32)) 6 0 14 (.ref q14)) 6 0 := Or.inl hv11
  have ha12 : bq_ad w 6 0 = bq_ad (bq_f (bq_n w11 8 24 q14 (fun _ => defaultValue (bp_ty 0)) (0, 32) (1 + 32)) 6 0 14 (.ref q14)) 6 0 := ha11
  have hx12 : ∀ i, 24 < i → ¬ bq_V (bq_f (bq_n w11 8 24 q14 (fun _ => defaultValue (bp_ty 0)) (0, 32) (1 + 32)) 6 0 14 (.ref q14)) 8 i := fun i hi z => z.elim (hx11 i (by omega)) (fun z => by omega)
  have hu12 : bq_us (bq_f (bq_n w11 8 24 q14 (fun _ => defaultValue (bp_ty 0)) (0, 32) (1 + 32)) 6 0 14 (.ref q14)) = bq_us w11 + (1 + 32) := rfl
  have e12 : (bq_f (bq_n w11 8 24 q14 (fun _ => defaultValue (bp_ty 0)) (0, 32) (1 + 32)) 6 0 14 (.ref q14)) = m_iA (fun _ => q14) w11 (14, 0, 32) := rfl
  generalize hw12 : (bq_f (bq_n w11 8 24 q14 (fun _ => defaultValue (bp_ty 0)) (0, 32) (1 + 32)) 6 0 14 (.ref q14)) = w12 at hv12 ha12 hx12 hu12 e12 ⊢
  have hn12 : ¬ bq_V w12 8 25 := hx12 _ (by decide)
  refine bq_aload_n (i := 0) dX6_init_97 rfl ?_
  refine bq_bipush (v := (nI 16)) dX6_init_98 (by decide) ?_
  refine bq_newa (N := 16) (ti := 0) (i := 25) dX6_init_100 (by decide) rfl aw_0 rfl (by decide) hn12 (by omega) (fun q15 => ?_)
  rw [bq_n_ad]
  refine bq_putfi (c := 6) (i := 0) (k := 15) (ha12.trans (bq_n_ado (by decide)).symm) dX6_init_102 fl_X6_47 (Or.inr ⟨rfl, rfl⟩) (Or.inl hv12) (by decide) rfl rfl ?_
  have hv13 : bq_V (bq_f (bq_n w12 8 25 q15 (fun _ => defaultValue (bp_ty 0)) (0, 16) (1 + 16)) 6 0 15 (.ref q15)) 6 0 := Or.inl hv12
  have ha13 : bq_ad w 6 0 = bq_ad (bq_f (bq_n w12 8 25 q15 (fun _ => defaultValue (bp_ty 0)) (0, 16) (1 + 16)) 6 0 15 (.ref q15)) 6 0 := ha12
  have hx13 : ∀ i, 25 < i → ¬ bq_V (bq_f (bq_n w12 8 25 q15 (fun _ => defaultValue (bp_ty 0)) (0, 16) (1 + 16)) 6 0 15 (.ref q15)) 8 i := fun i hi z => z.elim (hx12 i (by omega)) (fun z => by omega)
  have hu13 : bq_us (bq_f (bq_n w12 8 25 q15 (fun _ => defaultValue (bp_ty 0)) (0, 16) (1 + 16)) 6 0 15 (.ref q15)) = bq_us w12 + (1 + 16) := rfl
  have e13 : (bq_f (bq_n w12 8 25 q15 (fun _ => defaultValue (bp_ty 0)) (0, 16) (1 + 16)) 6 0 15 (.ref q15)) = m_iA (fun _ => q15) w12 (15, 0, 16) := rfl
  generalize hw13 : (bq_f (bq_n w12 8 25 q15 (fun _ => defaultValue (bp_ty 0)) (0, 16) (1 + 16)) 6 0 15 (.ref q15)) = w13 at hv13 ha13 hx13 hu13 e13 ⊢
  have hn13 : ¬ bq_V w13 8 26 := hx13 _ (by decide)
  refine bq_aload_n (i := 0) dX6_init_105 rfl ?_
  refine bq_bipush (v := (nI 32)) dX6_init_106 (by decide) ?_
  refine bq_newa (N := 32) (ti := 1) (i := 26) dX6_init_108 (by decide) rfl aw_1 rfl (by decide) hn13 (by omega) (fun q16 => ?_)
  rw [bq_n_ad]
  refine bq_putfi (c := 6) (i := 0) (k := 16) (ha13.trans (bq_n_ado (by decide)).symm) dX6_init_110 fl_X6_50 (Or.inr ⟨rfl, rfl⟩) (Or.inl hv13) (by decide) rfl rfl ?_
  have hv14 : bq_V (bq_f (bq_n w13 8 26 q16 (fun _ => defaultValue (bp_ty 1)) (1, 32) (1 + 32)) 6 0 16 (.ref q16)) 6 0 := Or.inl hv13
  have ha14 : bq_ad w 6 0 = bq_ad (bq_f (bq_n w13 8 26 q16 (fun _ => defaultValue (bp_ty 1)) (1, 32) (1 + 32)) 6 0 16 (.ref q16)) 6 0 := ha13
  have hx14 : ∀ i, 26 < i → ¬ bq_V (bq_f (bq_n w13 8 26 q16 (fun _ => defaultValue (bp_ty 1)) (1, 32) (1 + 32)) 6 0 16 (.ref q16)) 8 i := fun i hi z => z.elim (hx13 i (by omega)) (fun z => by omega)
  have hu14 : bq_us (bq_f (bq_n w13 8 26 q16 (fun _ => defaultValue (bp_ty 1)) (1, 32) (1 + 32)) 6 0 16 (.ref q16)) = bq_us w13 + (1 + 32) := rfl
  have e14 : (bq_f (bq_n w13 8 26 q16 (fun _ => defaultValue (bp_ty 1)) (1, 32) (1 + 32)) 6 0 16 (.ref q16)) = m_iA (fun _ => q16) w13 (16, 1, 32) := rfl
  generalize hw14 : (bq_f (bq_n w13 8 26 q16 (fun _ => defaultValue (bp_ty 1)) (1, 32) (1 + 32)) 6 0 16 (.ref q16)) = w14 at hv14 ha14 hx14 hu14 e14 ⊢
  have hn14 : ¬ bq_V w14 8 27 := hx14 _ (by decide)
  refine bq_aload_n (i := 0) dX6_init_113 rfl ?_
  refine bq_bipush (v := (nI 32)) dX6_init_114 (by decide) ?_
  refine bq_newa (N := 32) (ti := 0) (i := 27) dX6_init_116 (by decide) rfl aw_0 rfl (by decide) hn14 (by omega) (fun q17 => ?_)
  rw [bq_n_ad]
  refine bq_putfi (c := 6) (i := 0) (k := 17) (ha14.trans (bq_n_ado (by decide)).symm) dX6_init_118 fl_X6_53 (Or.inr ⟨rfl, rfl⟩) (Or.inl hv14) (by decide) rfl rfl ?_
  have hv15 : bq_V (bq_f (bq_n w14 8 27 q17 (fun _ => defaultValue (bp_ty 0)) (0, 32) (1 + 32)) 6 0 17 (.ref q17)) 6 0 := Or.inl hv14
  have ha15 : bq_ad w 6 0 = bq_ad (bq_f (bq_n w14 8 27 q17 (fun _ => defaultValue (bp_ty 0)) (0, 32) (1 + 32)) 6 0 17 (.ref q17)) 6 0 := ha14
  have hx15 : ∀ i, 27 < i → ¬ bq_V (bq_f (bq_n w14 8 27 q17 (fun _ => defaultValue (bp_ty 0)) (0, 32) (1 + 32)) 6 0 17 (.ref q17)) 8 i := fun i hi z => z.elim (hx14 i (by omega)) (fun z => by omega)
  have hu15 : bq_us (bq_f (bq_n w14 8 27 q17 (fun _ => defaultValue (bp_ty 0)) (0, 32) (1 + 32)) 6 0 17 (.ref q17)) = bq_us w14 + (1 + 32) := rfl
  have e15 : (bq_f (bq_n w14 8 27 q17 (fun _ => defaultValue (bp_ty 0)) (0, 32) (1 + 32)) 6 0 17 (.ref q17)) = m_iA (fun _ => q17) w14 (17, 0, 32) := rfl
  generalize hw15 : (bq_f (bq_n w14 8 27 q17 (fun _ => defaultValue (bp_ty 0)) (0, 32) (1 + 32)) 6 0 17 (.ref q17)) = w15 at hv15 ha15 hx15 hu15 e15 ⊢
  have hn15 : ¬ bq_V w15 8 28 := hx15 _ (by decide)
  refine bq_aload_n (i := 0) dX6_init_121 rfl ?_
  refine bq_bipush (v := (nI 32)) dX6_init_122 (by decide) ?_
  refine bq_newa (N := 32) (ti := 0) (i := 28) dX6_init_124 (by decide) rfl aw_0 rfl (by decide) hn15 (by omega) (fun q18 => ?_)
  rw [bq_n_ad]
  refine bq_putfi (c := 6) (i := 0) (k := 18) (ha15.trans (bq_n_ado (by decide)).symm) dX6_init_126 fl_X6_56 (Or.inr ⟨rfl, rfl⟩) (Or.inl hv15) (by decide) rfl rfl ?_
  have hv16 : bq_V (bq_f (bq_n w15 8 28 q18 (fun _ => defaultValue (bp_ty 0)) (0, 32) (1 + 32)) 6 0 18 (.ref q18)) 6 0 := Or.inl hv15
  have ha16 : bq_ad w 6 0 = bq_ad (bq_f (bq_n w15 8 28 q18 (fun _ => defaultValue (bp_ty 0)) (0, 32) (1 + 32)) 6 0 18 (.ref q18)) 6 0 := ha15
  have hx16 : ∀ i, 28 < i → ¬ bq_V (bq_f (bq_n w15 8 28 q18 (fun _ => defaultValue (bp_ty 0)) (0, 32) (1 + 32)) 6 0 18 (.ref q18)) 8 i := fun i hi z => z.elim (hx15 i (by omega)) (fun z => by omega)
  have hu16 : bq_us (bq_f (bq_n w15 8 28 q18 (fun _ => defaultValue (bp_ty 0)) (0, 32) (1 + 32)) 6 0 18 (.ref q18)) = bq_us w15 + (1 + 32) := rfl
  have e16 : (bq_f (bq_n w15 8 28 q18 (fun _ => defaultValue (bp_ty 0)) (0, 32) (1 + 32)) 6 0 18 (.ref q18)) = m_iA (fun _ => q18) w15 (18, 0, 32) := rfl
  generalize hw16 : (bq_f (bq_n w15 8 28 q18 (fun _ => defaultValue (bp_ty 0)) (0, 32) (1 + 32)) 6 0 18 (.ref q18)) = w16 at hv16 ha16 hx16 hu16 e16 ⊢
  have hn16 : ¬ bq_V w16 8 29 := hx16 _ (by decide)
  refine bq_aload_n (i := 0) dX6_init_129 rfl ?_
  refine bq_bipush (v := (nI 32)) dX6_init_130 (by decide) ?_
  refine bq_newa (N := 32) (ti := 0) (i := 29) dX6_init_132 (by decide) rfl aw_0 rfl (by decide) hn16 (by omega) (fun q19 => ?_)
  rw [bq_n_ad]
  refine bq_putfi (c := 6) (i := 0) (k := 19) (ha16.trans (bq_n_ado (by decide)).symm) dX6_init_134 fl_X6_59 (Or.inr ⟨rfl, rfl⟩) (Or.inl hv16) (by decide) rfl rfl ?_
  have hv17 : bq_V (bq_f (bq_n w16 8 29 q19 (fun _ => defaultValue (bp_ty 0)) (0, 32) (1 + 32)) 6 0 19 (.ref q19)) 6 0 := Or.inl hv16
  have ha17 : bq_ad w 6 0 = bq_ad (bq_f (bq_n w16 8 29 q19 (fun _ => defaultValue (bp_ty 0)) (0, 32) (1 + 32)) 6 0 19 (.ref q19)) 6 0 := ha16
  have hx17 : ∀ i, 29 < i → ¬ bq_V (bq_f (bq_n w16 8 29 q19 (fun _ => defaultValue (bp_ty 0)) (0, 32) (1 + 32)) 6 0 19 (.ref q19)) 8 i := fun i hi z => z.elim (hx16 i (by omega)) (fun z => by omega)
  have hu17 : bq_us (bq_f (bq_n w16 8 29 q19 (fun _ => defaultValue (bp_ty 0)) (0, 32) (1 + 32)) 6 0 19 (.ref q19)) = bq_us w16 + (1 + 32) := rfl
  have e17 : (bq_f (bq_n w16 8 29 q19 (fun _ => defaultValue (bp_ty 0)) (0, 32) (1 + 32)) 6 0 19 (.ref q19)) = m_iA (fun _ => q19) w16 (19, 0, 32) := rfl
  generalize hw17 : (bq_f (bq_n w16 8 29 q19 (fun _ => defaultValue (bp_ty 0)) (0, 32) (1 + 32)) 6 0 19 (.ref q19)) = w17 at hv17 ha17 hx17 hu17 e17 ⊢
  have hn17 : ¬ bq_V w17 8 30 := hx17 _ (by decide)
  refine bq_aload_n (i := 0) dX6_init_137 rfl ?_
  refine bq_bipush (v := (nI 32)) dX6_init_138 (by decide) ?_
  refine bq_newa (N := 32) (ti := 0) (i := 30) dX6_init_140 (by decide) rfl aw_0 rfl (by decide) hn17 (by omega) (fun q20 => ?_)
  rw [bq_n_ad]
  refine bq_putfi (c := 6) (i := 0) (k := 20) (ha17.trans (bq_n_ado (by decide)).symm) dX6_init_142 fl_X6_62 (Or.inr ⟨rfl, rfl⟩) (Or.inl hv17) (by decide) rfl rfl ?_
  have hv18 : bq_V (bq_f (bq_n w17 8 30 q20 (fun _ => defaultValue (bp_ty 0)) (0, 32) (1 + 32)) 6 0 20 (.ref q20)) 6 0 := Or.inl hv17
  have ha18 : bq_ad w 6 0 = bq_ad (bq_f (bq_n w17 8 30 q20 (fun _ => defaultValue (bp_ty 0)) (0, 32) (1 + 32)) 6 0 20 (.ref q20)) 6 0 := ha17
  have hx18 : ∀ i, 30 < i → ¬ bq_V (bq_f (bq_n w17 8 30 q20 (fun _ => defaultValue (bp_ty 0)) (0, 32) (1 + 32)) 6 0 20 (.ref q20)) 8 i := fun i hi z => z.elim (hx17 i (by omega)) (fun z => by omega)
  have hu18 : bq_us (bq_f (bq_n w17 8 30 q20 (fun _ => defaultValue (bp_ty 0)) (0, 32) (1 + 32)) 6 0 20 (.ref q20)) = bq_us w17 + (1 + 32) := rfl
  have e18 : (bq_f (bq_n w17 8 30 q20 (fun _ => defaultValue (bp_ty 0)) (0, 32) (1 + 32)) 6 0 20 (.ref q20)) = m_iA (fun _ => q20) w17 (20, 0, 32) := rfl
  generalize hw18 : (bq_f (bq_n w17 8 30 q20 (fun _ => defaultValue (bp_ty 0)) (0, 32) (1 + 32)) 6 0 20 (.ref q20)) = w18 at hv18 ha18 hx18 hu18 e18 ⊢
  have hn18 : ¬ bq_V w18 8 32 := hx18 _ (by decide)
  refine bq_aload_n (i := 0) dX6_init_145 rfl ?_
  refine bq_bipush (v := (nI 32)) dX6_init_146 (by decide) ?_
  refine bq_newa (N := 32) (ti := 0) (i := 32) dX6_init_148 (by decide) rfl aw_0 rfl (by decide) hn18 (by omega) (fun q22 => ?_)
  rw [bq_n_ad]
  refine bq_putfi (c := 6) (i := 0) (k := 22) (ha18.trans (bq_n_ado (by decide)).symm) dX6_init_150 fl_X6_65 (Or.inr ⟨rfl, rfl⟩) (Or.inl hv18) (by decide) rfl rfl ?_
  have hv19 : bq_V (bq_f (bq_n w18 8 32 q22 (fun _ => defaultValue (bp_ty 0)) (0, 32) (1 + 32)) 6 0 22 (.ref q22)) 6 0 := Or.inl hv18
  have ha19 : bq_ad w 6 0 = bq_ad (bq_f (bq_n w18 8 32 q22 (fun _ => defaultValue (bp_ty 0)) (0, 32) (1 + 32)) 6 0 22 (.ref q22)) 6 0 := ha18
  have hx19 : ∀ i, 32 < i → ¬ bq_V (bq_f (bq_n w18 8 32 q22 (fun _ => defaultValue (bp_ty 0)) (0, 32) (1 + 32)) 6 0 22 (.ref q22)) 8 i := fun i hi z => z.elim (hx18 i (by omega)) (fun z => by omega)
  have hu19 : bq_us (bq_f (bq_n w18 8 32 q22 (fun _ => defaultValue (bp_ty 0)) (0, 32) (1 + 32)) 6 0 22 (.ref q22)) = bq_us w18 + (1 + 32) := rfl
  have e19 : (bq_f (bq_n w18 8 32 q22 (fun _ => defaultValue (bp_ty 0)) (0, 32) (1 + 32)) 6 0 22 (.ref q22)) = m_iA (fun _ => q22) w18 (22, 0, 32) := rfl
  generalize hw19 : (bq_f (bq_n w18 8 32 q22 (fun _ => defaultValue (bp_ty 0)) (0, 32) (1 + 32)) 6 0 22 (.ref q22)) = w19 at hv19 ha19 hx19 hu19 e19 ⊢
  have hn19 : ¬ bq_V w19 8 33 := hx19 _ (by decide)
  refine bq_aload_n (i := 0) dX6_init_153 rfl ?_
  refine bq_sipush (v := (nI 256)) dX6_init_154 (by decide) ?_
  refine bq_newa (N := 256) (ti := 0) (i := 33) dX6_init_157 (by decide) rfl aw_0 rfl (by decide) hn19 (by omega) (fun q23 => ?_)
  rw [bq_n_ad]
  refine bq_putfi (c := 6) (i := 0) (k := 23) (ha19.trans (bq_n_ado (by decide)).symm) dX6_init_159 fl_X6_68 (Or.inr ⟨rfl, rfl⟩) (Or.inl hv19) (by decide) rfl rfl ?_
  have hv20 : bq_V (bq_f (bq_n w19 8 33 q23 (fun _ => defaultValue (bp_ty 0)) (0, 256) (1 + 256)) 6 0 23 (.ref q23)) 6 0 := Or.inl hv19
  have ha20 : bq_ad w 6 0 = bq_ad (bq_f (bq_n w19 8 33 q23 (fun _ => defaultValue (bp_ty 0)) (0, 256) (1 + 256)) 6 0 23 (.ref q23)) 6 0 := ha19
  have hx20 : ∀ i, 33 < i → ¬ bq_V (bq_f (bq_n w19 8 33 q23 (fun _ => defaultValue (bp_ty 0)) (0, 256) (1 + 256)) 6 0 23 (.ref q23)) 8 i := fun i hi z => z.elim (hx19 i (by omega)) (fun z => by omega)
  have hu20 : bq_us (bq_f (bq_n w19 8 33 q23 (fun _ => defaultValue (bp_ty 0)) (0, 256) (1 + 256)) 6 0 23 (.ref q23)) = bq_us w19 + (1 + 256) := rfl
  have e20 : (bq_f (bq_n w19 8 33 q23 (fun _ => defaultValue (bp_ty 0)) (0, 256) (1 + 256)) 6 0 23 (.ref q23)) = m_iA (fun _ => q23) w19 (23, 0, 256) := rfl
  generalize hw20 : (bq_f (bq_n w19 8 33 q23 (fun _ => defaultValue (bp_ty 0)) (0, 256) (1 + 256)) 6 0 23 (.ref q23)) = w20 at hv20 ha20 hx20 hu20 e20 ⊢
  have hn20 : ¬ bq_V w20 8 34 := hx20 _ (by decide)
  refine bq_aload_n (i := 0) dX6_init_162 rfl ?_
  refine bq_sipush (v := (nI 256)) dX6_init_163 (by decide) ?_
  refine bq_newa (N := 256) (ti := 0) (i := 34) dX6_init_166 (by decide) rfl aw_0 rfl (by decide) hn20 (by omega) (fun q24 => ?_)
  rw [bq_n_ad]
  refine bq_putfi (c := 6) (i := 0) (k := 24) (ha20.trans (bq_n_ado (by decide)).symm) dX6_init_168 fl_X6_71 (Or.inr ⟨rfl, rfl⟩) (Or.inl hv20) (by decide) rfl rfl ?_
  have hv21 : bq_V (bq_f (bq_n w20 8 34 q24 (fun _ => defaultValue (bp_ty 0)) (0, 256) (1 + 256)) 6 0 24 (.ref q24)) 6 0 := Or.inl hv20
  have ha21 : bq_ad w 6 0 = bq_ad (bq_f (bq_n w20 8 34 q24 (fun _ => defaultValue (bp_ty 0)) (0, 256) (1 + 256)) 6 0 24 (.ref q24)) 6 0 := ha20
  have hx21 : ∀ i, 34 < i → ¬ bq_V (bq_f (bq_n w20 8 34 q24 (fun _ => defaultValue (bp_ty 0)) (0, 256) (1 + 256)) 6 0 24 (.ref q24)) 8 i := fun i hi z => z.elim (hx20 i (by omega)) (fun z => by omega)
  have hu21 : bq_us (bq_f (bq_n w20 8 34 q24 (fun _ => defaultValue (bp_ty 0)) (0, 256) (1 + 256)) 6 0 24 (.ref q24)) = bq_us w20 + (1 + 256) := rfl
  have e21 : (bq_f (bq_n w20 8 34 q24 (fun _ => defaultValue (bp_ty 0)) (0, 256) (1 + 256)) 6 0 24 (.ref q24)) = m_iA (fun _ => q24) w20 (24, 0, 256) := rfl
  generalize hw21 : (bq_f (bq_n w20 8 34 q24 (fun _ => defaultValue (bp_ty 0)) (0, 256) (1 + 256)) 6 0 24 (.ref q24)) = w21 at hv21 ha21 hx21 hu21 e21 ⊢
  refine bq_aload_n (i := 0) dX6_init_171 rfl ?_
  refine bq_iconst (v := nI 0) dX6_init_172 (by decide) ?_
  refine bq_putfi (c := 6) (i := 0) (k := 0) ha21 dX6_init_173 fl_X6_74 (Or.inl rfl) hv21 (by decide) rfl rfl ?_
  refine bq_vret dX6_init_176 rfl (bq_val_i ⟨rfl, (fun k => if k = 2 then q2 else if k = 3 then q3 else if k = 4 then q4 else if k = 5 then q5 else if k = 6 then q6 else if k = 8 then q8 else if k = 9 then q9 else if k = 10 then q10 else if k = 11 then q11 else if k = 12 then q12 else if k = 13 then q13 else if k = 14 then q14 else if k = 15 then q15 else if k = 16 then q16 else if k = 17 then q17 else if k = 18 then q18 else if k = 19 then q19 else if k = 20 then q20 else if k = 22 then q22 else if k = 23 then q23 else if k = 24 then q24 else 0), ?_⟩)
  congr 1
  rw [e21]
  rw [e20]
  rw [e19]
  rw [e18]
  rw [e17]
  rw [e16]
  rw [e15]
  rw [e14]
  rw [e13]
  rw [e12]
  rw [e11]
  rw [e10]
  rw [e9]
  rw [e8]
  rw [e7]
  rw [e6]
  rw [e5]
  rw [e4]
  rw [e3]
  rw [e2]
  rw [e1]
  rfl
