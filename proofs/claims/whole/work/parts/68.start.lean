/-! ===== the law: its start ===== -/
section VST
variable {G : bp_X}
def l_w0 : bq_O := (fun _ _ => False, fun _ _ => 0, fun _ _ _ => .null, fun _ => [], fun _ => (0, 0), 0)
def l_z : bt_X := (fun _ _ _ => nI 0, fun _ _ _ => none, fun _ => [])
/-- behind the three that are made -/
def l_w1 (q5 qs q0 q1 q3 qa q2 q4 : Nat) : bq_O := b_iB (bq_n l_w0 5 0 q5 (bq_born tyX5) (0, 0) 2) qs q0 q1 q3 qa q2 q4
def l_w2 (w : bq_O) (q6 : Nat) (q : Nat → Nat) : bq_O := bq_f (m_iAs q (bq_n w 6 0 q6 (bq_born tyX6) (0, 0) 26) m_aL) 6 0 0 (.int (nI 0))
def l_w3 (w : bq_O) (q9 : Nat) : bq_O := bq_n w 8 5 q9 (fun _ => defaultValue (bp_ty 2)) (2, 1) 2
def l_al (w : bq_O) : bt_A := (w.1, w.2.1, w.2.2.2.2.1, w.2.2.2.2.2)
theorem l_Inv : v_Inv l_z l_z := by
  have e0 : b_nm l_z = 0 := rfl
  have e1 : b_nj l_z = 0 := rfl
  have hop : ∀ i, ¬ v_op l_z i := fun i h => by have := h.1; rw [e1] at this; omega
  have hw : ∀ B : Nat, 0 < B → m_w B (nI 0) := fun B hB => ⟨rfl, hB⟩
  refine ⟨⟨⟨⟨rfl, by decide, rfl, by decide, fun j hj => absurd hj (by rw [e1]; omega)⟩, fun i hi => absurd hi (hop i), fun m hm => absurd hm (by rw [e0]; omega), fun f g _ _ => ⟨0, rfl, by omega⟩, fun j hj => absurd hj (by rw [e1]; omega), fun m hm => absurd hm (by rw [e0]; omega)⟩,
    ⟨fun m hm => absurd hm (by rw [e0]; omega), fun m hm => absurd hm (by rw [e0]; omega), fun m hm => absurd hm (by rw [e0]; omega), by decide⟩, fun i hi => absurd hi (hop i), fun i hi => absurd hi (hop i),
    ⟨fun m hm => absurd hm (by rw [e0]; omega), fun j hj => absurd hj (by rw [e1]; omega), List.nodup_nil, fun i hi => absurd hi List.not_mem_nil, fun n i hn => by simp [l_z] at hn, fun i hi => absurd hi List.not_mem_nil, rfl⟩, fun m hm => absurd hm (by rw [e0]; omega)⟩,
    ⟨⟨hw 5 (by omega), hw 9 (by omega), fun j _ => hw 5 (by omega)⟩, fun p _ => ⟨hw 4 (by omega), hw 4 (by omega)⟩, fun p _ => hw 256 (by omega), fun m _ _ => ⟨rfl, rfl⟩, fun j _ _ => rfl⟩,
    ⟨rfl, rfl, fun j _ => ?_, fun i hi => absurd hi (hop i), fun m hm => absurd hm (by rw [e0]; omega), fun f g _ _ => rfl, fun j hj => absurd hj (by rw [e1]; omega)⟩,
    ⟨fun m _ => ⟨hw 33 (by omega), fun k hk => ?_⟩, fun m _ => ?_, fun m hm => absurd hm (by rw [e0]; omega)⟩⟩
  · rw [if_neg (by rw [e1]; omega)]; rfl
  · exact hw 32 (by omega)
  · rw [if_neg (by rw [e0]; omega)]; rfl
theorem l_V {q5 qs q0 q1 q3 qa q2 q4 q6 q9 : Nat} {q : Nat → Nat} {c i : Nat} (h : bq_V (l_w3 (l_w2 (l_w1 q5 qs q0 q1 q3 qa q2 q4) q6 q) q9) c i) : (3 ≤ c ∧ c ≤ 6 ∧ i = 0) ∨ (c = 7 ∧ i < 4) ∨ (c = 8 ∧ (i < 6 ∨ (12 ≤ i ∧ i ≤ 16) ∨ (18 ≤ i ∧ i ≤ 30) ∨ (32 ≤ i ∧ i ≤ 34))) := by
  have h : (l_w3 (l_w2 (l_w1 q5 qs q0 q1 q3 qa q2 q4) q6 q) q9).1 c i := h
  simp only [l_w3, l_w2, l_w1, bq_n, bq_f, m_iAs, m_aL, List.foldl, m_iA, b_iB, b_iH, b_iH1, b_iH2, b_iS, bq_gd, l_w0, false_or] at h
  omega
set_option maxRecDepth 100000 in
set_option maxHeartbeats 1000000 in
theorem l_val {q5 qs q0 q1 q3 qa q2 q4 q6 q9 : Nat} {q : Nat → Nat} : ∀ c i k, bq_V (l_w3 (l_w2 (l_w1 q5 qs q0 q1 q3 qa q2 q4) q6 q) q9) c i → c < 7 → k < 32 → bq_v (l_w3 (l_w2 (l_w1 q5 qs q0 q1 q3 qa q2 q4) q6 q) q9) c i k = bt_v (l_al (l_w3 (l_w2 (l_w1 q5 qs q0 q1 q3 qa q2 q4) q6 q) q9)) l_z l_z c i k := by
  intro c i k hV hc hk
  have hV := l_V hV
  have hi : i = 0 := by omega
  subst hi
  rcases (show c = 3 ∨ c = 4 ∨ c = 5 ∨ c = 6 by omega) with rfl | rfl | rfl | rfl
  all_goals rcases (show k = 0 ∨ k = 1 ∨ k = 2 ∨ k = 3 ∨ k = 4 ∨ k = 5 ∨ k = 6 ∨ k = 7 ∨ k = 8 ∨ k = 9 ∨ k = 10 ∨ k = 11 ∨ k = 12 ∨ k = 13 ∨ k = 14 ∨ k = 15 ∨ k = 16 ∨ k = 17 ∨ k = 18 ∨ k = 19 ∨ k = 20 ∨ k = 21 ∨ k = 22 ∨ k = 23 ∨ k = 24 ∨ k = 25 ∨ k = 26 ∨ k = 27 ∨ k = 28 ∨ k = 29 ∨ k = 30 ∨ k = 31 by omega) with rfl | rfl | rfl | rfl | rfl | rfl | rfl | rfl | rfl | rfl | rfl | rfl | rfl | rfl | rfl | rfl | rfl | rfl | rfl | rfl | rfl | rfl | rfl | rfl | rfl | rfl | rfl | rfl | rfl | rfl | rfl | rfl
  all_goals rfl
set_option maxRecDepth 100000 in
set_option maxHeartbeats 1000000 in
theorem l_arr {q5 qs q0 q1 q3 qa q2 q4 q6 q9 : Nat} {q : Nat → Nat} : ∀ i k, bq_V (l_w3 (l_w2 (l_w1 q5 qs q0 q1 q3 qa q2 q4) q6 q) q9) 8 i → k < (bq_at (l_w3 (l_w2 (l_w1 q5 qs q0 q1 q3 qa q2 q4) q6 q) q9) i).2 → bq_v (l_w3 (l_w2 (l_w1 q5 qs q0 q1 q3 qa q2 q4) q6 q) q9) 8 i k = bt_v (l_al (l_w3 (l_w2 (l_w1 q5 qs q0 q1 q3 qa q2 q4) q6 q) q9)) l_z l_z 8 i k := by
  intro i k hV hk
  have hV := l_V hV
  by_cases e : i = 0
  · subst e
    have hk4 : k < 4 := hk
    rcases (show k = 0 ∨ k = 1 ∨ k = 2 ∨ k = 3 by omega) with rfl | rfl | rfl | rfl <;> rfl
  · rcases (show i = 1 ∨ i = 2 ∨ i = 3 ∨ i = 4 ∨ i = 5 ∨ i = 12 ∨ i = 13 ∨ i = 14 ∨ i = 15 ∨ i = 16 ∨ i = 18 ∨ i = 19 ∨ i = 20 ∨ i = 21 ∨ i = 22 ∨ i = 23 ∨ i = 24 ∨ i = 25 ∨ i = 26 ∨ i = 27 ∨ i = 28 ∨ i = 29 ∨ i = 30 ∨ i = 32 ∨ i = 33 ∨ i = 34 by omega) with rfl | rfl | rfl | rfl | rfl | rfl | rfl | rfl | rfl | rfl | rfl | rfl | rfl | rfl | rfl | rfl | rfl | rfl | rfl | rfl | rfl | rfl | rfl | rfl | rfl | rfl
    all_goals rfl
theorem l_lst {q5 qs q0 q1 q3 qa q2 q4 q6 q9 : Nat} {q : Nat → Nat} : ∀ n, bq_V (l_w3 (l_w2 (l_w1 q5 qs q0 q1 q3 qa q2 q4) q6 q) q9) 7 n → bq_ls (l_w3 (l_w2 (l_w1 q5 qs q0 q1 q3 qa q2 q4) q6 q) q9) n = bt_l l_z l_z n := by
  intro n hV
  have hV := l_V hV
  rcases (show n = 0 ∨ n = 1 ∨ n = 2 ∨ n = 3 by omega) with rfl | rfl | rfl | rfl <;> rfl
end VST
