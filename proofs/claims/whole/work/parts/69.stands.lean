/-! ===== the law: what stands at its start ===== -/
section VSU
variable {q5 qs q0 q1 q3 qa q2 q4 q6 q9 : Nat} {q : Nat → Nat} {w : bq_O}
theorem l_up {c i : Nat} (h : bq_V w c i) : bq_V (l_w3 (l_w2 w q6 q) q9) c i := Or.inl (bq_fVl ((m_iAs_V m_aL _ c i).mpr (Or.inl (Or.inl h))))
theorem l_b5 : bq_V (l_w1 q5 qs q0 q1 q3 qa q2 q4) 5 0 := Or.inl (Or.inl (Or.inl (Or.inl (Or.inl (Or.inl (Or.inl (Or.inl (Or.inl (Or.inl (Or.inl (Or.inr ⟨rfl, rfl⟩)))))))))))
theorem l_b4 : bq_V (l_w1 q5 qs q0 q1 q3 qa q2 q4) 4 0 := Or.inl (Or.inl (Or.inl (Or.inl (Or.inl (Or.inl (Or.inl (Or.inl (Or.inl (Or.inl (Or.inr ⟨rfl, rfl⟩))))))))))
theorem l_b70 : bq_V (l_w1 q5 qs q0 q1 q3 qa q2 q4) 7 0 := Or.inl (Or.inl (Or.inl (Or.inl (Or.inl (Or.inl (Or.inl (Or.inl (Or.inl (Or.inr ⟨rfl, rfl⟩)))))))))
theorem l_b71 : bq_V (l_w1 q5 qs q0 q1 q3 qa q2 q4) 7 1 := Or.inl (Or.inl (Or.inl (Or.inl (Or.inl (Or.inl (Or.inl (Or.inl (Or.inr ⟨rfl, rfl⟩))))))))
theorem l_b3 : bq_V (l_w1 q5 qs q0 q1 q3 qa q2 q4) 3 0 := Or.inl (Or.inl (Or.inl (Or.inl (Or.inl (Or.inl (Or.inl (Or.inr ⟨rfl, rfl⟩)))))))
theorem l_b80 : bq_V (l_w1 q5 qs q0 q1 q3 qa q2 q4) 8 0 := Or.inl (Or.inl (Or.inl (Or.inl (Or.inl (Or.inl (Or.inr ⟨rfl, rfl⟩))))))
theorem l_b81 : bq_V (l_w1 q5 qs q0 q1 q3 qa q2 q4) 8 1 := Or.inl (Or.inl (Or.inl (Or.inl (Or.inl (Or.inr ⟨rfl, rfl⟩)))))
theorem l_b82 : bq_V (l_w1 q5 qs q0 q1 q3 qa q2 q4) 8 2 := Or.inl (Or.inl (Or.inl (Or.inl (Or.inr ⟨rfl, rfl⟩))))
theorem l_b83 : bq_V (l_w1 q5 qs q0 q1 q3 qa q2 q4) 8 3 := Or.inl (Or.inl (Or.inl (Or.inr ⟨rfl, rfl⟩)))
theorem l_b84 : bq_V (l_w1 q5 qs q0 q1 q3 qa q2 q4) 8 4 := Or.inl (Or.inl (Or.inr ⟨rfl, rfl⟩))
theorem l_b72 : bq_V (l_w1 q5 qs q0 q1 q3 qa q2 q4) 7 2 := Or.inl (Or.inr ⟨rfl, rfl⟩)
theorem l_b73 : bq_V (l_w1 q5 qs q0 q1 q3 qa q2 q4) 7 3 := Or.inr ⟨rfl, rfl⟩
theorem l_u6 : bq_V (l_w3 (l_w2 w q6 q) q9) 6 0 := Or.inl (bq_fVl ((m_iAs_V m_aL _ 6 0).mpr (Or.inl (Or.inr ⟨rfl, rfl⟩))))
theorem l_u9 : bq_V (l_w3 (l_w2 w q6 q) q9) 8 5 := Or.inr ⟨rfl, rfl⟩
theorem l_u9t : bq_at (l_w3 (l_w2 w q6 q) q9) 5 = (2, 1) := rfl
theorem l_aL : ∀ z ∈ m_aL, z.2 = bt_arl (10 + z.1) := by decide
theorem l_ua {z : Nat × Nat × Nat} (hz : z ∈ m_aL) : bq_V (l_w3 (l_w2 w q6 q) q9) 8 (10 + z.1) ∧ bq_at (l_w3 (l_w2 w q6 q) q9) (10 + z.1) = bt_arl (10 + z.1) := by
  refine ⟨Or.inl (bq_fVl ((m_iAs_V m_aL _ 8 _).mpr (Or.inr ⟨rfl, z, hz, rfl⟩))), ?_⟩
  show (if 8 = 8 ∧ 10 + z.1 = 5 then (2, 1) else bq_at (m_iAs q (bq_n w 6 0 q6 (bq_born tyX6) (0, 0) 26) m_aL) (10 + z.1)) = _
  rw [if_neg (by omega)]
  exact (m_iAs_at m_aL _ (by decide) z hz).2.2.2.trans (l_aL z hz)
theorem l_ut {n : Nat} (hn : n < 5) : bq_at (l_w3 (l_w2 w q6 q) q9) n = bq_at w n := by
  show (if 8 = 8 ∧ n = 5 then (2, 1) else bq_at (m_iAs q (bq_n w 6 0 q6 (bq_born tyX6) (0, 0) 26) m_aL) n) = _
  rw [if_neg (by omega)]
  refine ((m_iAs_no m_aL _ 8 n (fun e => ?_)).2.2 rfl).trans ?_
  · obtain ⟨-, z, -, e⟩ := e
    omega
  · show (if 6 = 8 ∧ n = 0 then (0, 0) else bq_at w n) = _
    rw [if_neg (by omega)]
theorem l_b8 {n : Nat} (hn : n < 5) : bq_V (l_w1 q5 qs q0 q1 q3 qa q2 q4) 8 n ∧ bq_at (l_w1 q5 qs q0 q1 q3 qa q2 q4) n = bt_arl n := by
  rcases (show n = 0 ∨ n = 1 ∨ n = 2 ∨ n = 3 ∨ n = 4 by omega) with rfl | rfl | rfl | rfl | rfl
  · exact ⟨l_b80, rfl⟩
  · exact ⟨l_b81, rfl⟩
  · exact ⟨l_b82, rfl⟩
  · exact ⟨l_b83, rfl⟩
  · exact ⟨l_b84, rfl⟩
theorem l_C (i : Nat) (h : (12 ≤ i ∧ i ≤ 16) ∨ (18 ≤ i ∧ i ≤ 30) ∨ (32 ≤ i ∧ i ≤ 34)) : bq_V (l_w3 (l_w2 w q6 q) q9) 8 i ∧ bq_at (l_w3 (l_w2 w q6 q) q9) i = bt_arl i := by
  have key : ∃ z ∈ m_aL, i = 10 + z.1 := by
    rcases (show i = 12 ∨ i = 13 ∨ i = 14 ∨ i = 15 ∨ i = 16 ∨ i = 18 ∨ i = 19 ∨ i = 20 ∨ i = 21 ∨ i = 22 ∨ i = 23 ∨ i = 24 ∨ i = 25 ∨ i = 26 ∨ i = 27 ∨ i = 28 ∨ i = 29 ∨ i = 30 ∨ i = 32 ∨ i = 33 ∨ i = 34 by omega) with rfl | rfl | rfl | rfl | rfl | rfl | rfl | rfl | rfl | rfl | rfl | rfl | rfl | rfl | rfl | rfl | rfl | rfl | rfl | rfl | rfl
    all_goals decide
  obtain ⟨z, hz, rfl⟩ := key
  exact l_ua hz
theorem l_zV : z_V (l_al (l_w3 (l_w2 (l_w1 q5 qs q0 q1 q3 qa q2 q4) q6 q) q9)) l_z := by
  have e0 : b_nm l_z = 0 := rfl
  have e1 : b_nj l_z = 0 := rfl
  refine ⟨⟨l_up (q6 := q6) (q9 := q9) (q := q) l_b3, l_up (q6 := q6) (q9 := q9) (q := q) l_b4, l_up (q6 := q6) (q9 := q9) (q := q) l_b5, l_up (q6 := q6) (q9 := q9) (q := q) l_b70, l_up (q6 := q6) (q9 := q9) (q := q) l_b71, l_up (q6 := q6) (q9 := q9) (q := q) l_b72, l_up (q6 := q6) (q9 := q9) (q := q) l_b73⟩, fun n hn => ⟨l_up (q6 := q6) (q9 := q9) (q := q) (l_b8 hn).1, (l_ut (q6 := q6) (q9 := q9) (q := q) hn).trans (l_b8 hn).2⟩, fun m => ⟨fun h => ?_, fun h => ?_⟩, fun j => ⟨fun h => ?_, fun h => ?_⟩, fun i => ⟨fun h => ?_, fun h => ?_⟩, fun n => ⟨fun h => ?_, fun h => ?_⟩, ⟨l_u6 (q6 := q6) (q9 := q9) (q := q), fun n hn => l_C (q6 := q6) (q9 := q9) (q := q) n hn⟩, l_u9 (q6 := q6) (q9 := q9) (q := q), l_u9t (q6 := q6) (q9 := q9) (q := q)⟩
  · have := l_V (q9 := q9) h; omega
  · rw [e0] at h; omega
  · have := l_V (q9 := q9) h; omega
  · rw [e1] at h; omega
  · have := l_V (q9 := q9) h; omega
  · have := h.1; rw [e1] at this; omega
  · have := l_V (q9 := q9) h; omega
  · rw [e0, e1] at h
    rcases (show n = 0 ∨ n = 1 ∨ n = 2 ∨ n = 3 by omega) with rfl | rfl | rfl | rfl
    · exact l_up (q6 := q6) (q9 := q9) (q := q) l_b70
    · exact l_up (q6 := q6) (q9 := q9) (q := q) l_b71
    · exact l_up (q6 := q6) (q9 := q9) (q := q) l_b72
    · exact l_up (q6 := q6) (q9 := q9) (q := q) l_b73
end VSU
