/-! ===== the law: its start ===== -/
section UST
variable {G : bp_X}
def l_w0 : bq_O := (fun _ _ => False, fun _ _ => 0, fun _ _ _ => .null, fun _ => [], fun _ => (0, 0), 0)
def l_z : bt_X := (fun _ _ _ => nI 0, fun _ _ _ => none, fun _ => [])
/-- behind the three that are made -/
def l_w1 (q5 qs q0 q1 q3 qa q2 q4 : Nat) : bq_O := b_iB (bq_n l_w0 5 0 q5 (bq_born tyX5) (0, 0) 2) qs q0 q1 q3 qa q2 q4
def l_al (w : bq_O) : bt_A := (w.1, w.2.1, w.2.2.2.2.1, w.2.2.2.2.2)
def l_iv : Nat → Value := fun _ => defaultValue (bp_ty 0)
def l_wA (w : bq_O) (p1 : Nat) : bq_O := bq_n w 8 35 p1 l_iv (0, 8) 9
def l_wB (w : bq_O) (p2 : Nat) : bq_O := bq_n w 8 36 p2 l_iv (0, 8) 9
def l_wC (w : bq_O) (p3 : Nat) : bq_O := bq_n w 8 37 p3 l_iv (0, 8) 9
def l_wD (w : bq_O) (p4 : Nat) : bq_O := bq_n w 8 38 p4 l_iv (0, 32) 33
def l_wE (w : bq_O) (p5 : Nat) : bq_O := bq_n w 8 39 p5 l_iv (0, 32) 33
def l_w5 (w : bq_O) (p1 p2 p3 p4 p5 : Nat) : bq_O := l_wE (l_wD (l_wC (l_wB (l_wA w p1) p2) p3) p4) p5
theorem l_Inv : v_Inv l_z l_z := by
  have e0 : b_nm l_z = 0 := rfl
  have e1 : b_nj l_z = 0 := rfl
  have hop : ∀ i, ¬ v_op l_z i := fun i h => by have := h.1; rw [e1] at this; omega
  have hw : ∀ B : Nat, 0 < B → m_w B (nI 0) := fun B hB => ⟨rfl, hB⟩
  refine ⟨⟨⟨⟨rfl, by decide, rfl, by decide, fun j hj => absurd hj (by rw [e1]; omega)⟩, fun i hi => absurd hi (hop i), fun m hm => absurd hm (by rw [e0]; omega), fun f g _ _ => ⟨0, rfl, by omega⟩, fun j hj => absurd hj (by rw [e1]; omega), fun m hm => absurd hm (by rw [e0]; omega)⟩,
    ⟨fun m hm => absurd hm (by rw [e0]; omega), fun m hm => absurd hm (by rw [e0]; omega), fun m hm => absurd hm (by rw [e0]; omega), by decide⟩, fun i hi => absurd hi (hop i), fun i hi => absurd hi (hop i),
    ⟨fun m hm => absurd hm (by rw [e0]; omega), fun j hj => absurd hj (by rw [e1]; omega), List.nodup_nil, fun i hi => absurd hi List.not_mem_nil, fun n i hn => by simp [l_z] at hn, fun i hi => absurd hi List.not_mem_nil, rfl⟩, fun m hm => absurd hm (by rw [e0]; omega)⟩,
    ⟨⟨hw 5 (by omega), hw 9 (by omega), fun j _ => hw 5 (by omega)⟩, fun p _ => ⟨hw 4 (by omega), hw 4 (by omega)⟩, fun p _ => hw 256 (by omega), fun m _ _ => ⟨rfl, rfl⟩, fun j _ _ => rfl⟩,
    ⟨rfl, rfl, fun j _ => ?_, fun i hi => absurd hi (hop i), fun m hm => absurd hm (by rw [e0]; omega), fun f g _ _ => rfl, fun j hj => absurd hj (by rw [e1]; omega)⟩,
    ⟨fun m _ => ⟨hw 33 (by omega), fun k hk => ?_⟩, fun m _ => ?_, fun m hm => absurd hm (by rw [e0]; omega)⟩⟩
  · rw [if_neg (by rw [e1]; omega)]; rfl
  · exact hw 32 (by omega)
  · rw [if_neg (by rw [e0]; omega)]; rfl
theorem l_L : u_L l_z l_z := by
  have e0 : b_nm l_z = 0 := rfl
  have e1 : b_nj l_z = 0 := rfl
  refine ⟨fun j _ => by rw [if_neg (by rw [e1]; omega)]; rfl, fun j _ => by rw [if_neg (by rw [e1]; omega)]; rfl, fun j hj => absurd hj (by rw [e1]; omega), fun i hi => absurd hi.1 (by rw [e1]; omega), fun m hm => absurd hm (by rw [e0]; omega), fun i hi => absurd hi.1 (by rw [e1]; omega)⟩
theorem l_V {q5 qs q0 q1 q3 qa q2 q4 p1 p2 p3 p4 p5 : Nat} {c i : Nat} (h : bq_V (l_w5 (l_w1 q5 qs q0 q1 q3 qa q2 q4) p1 p2 p3 p4 p5) c i) : (3 ≤ c ∧ c ≤ 5 ∧ i = 0) ∨ (c = 7 ∧ i < 4) ∨ (c = 8 ∧ (i < 5 ∨ (35 ≤ i ∧ i < 40))) := by
  have h : (l_w5 (l_w1 q5 qs q0 q1 q3 qa q2 q4) p1 p2 p3 p4 p5).1 c i := h
  simp only [l_w5, l_wE, l_wD, l_wC, l_wB, l_wA, l_w1, bq_n, bq_f, b_iB, b_iH, b_iH1, b_iH2, b_iS, bq_gd, l_w0, false_or] at h
  omega
set_option maxRecDepth 100000 in
set_option maxHeartbeats 1000000 in
theorem l_val {q5 qs q0 q1 q3 qa q2 q4 p1 p2 p3 p4 p5 : Nat} : ∀ c i k, bq_V (l_w5 (l_w1 q5 qs q0 q1 q3 qa q2 q4) p1 p2 p3 p4 p5) c i → c < 7 → k < 32 → bq_v (l_w5 (l_w1 q5 qs q0 q1 q3 qa q2 q4) p1 p2 p3 p4 p5) c i k = bt_v (l_al (l_w5 (l_w1 q5 qs q0 q1 q3 qa q2 q4) p1 p2 p3 p4 p5)) l_z l_z c i k := by
  intro c i k hV hc hk
  have hV := l_V hV
  have hi : i = 0 := by omega
  subst hi
  rcases (show c = 3 ∨ c = 4 ∨ c = 5 by omega) with rfl | rfl | rfl
  all_goals rcases (show k = 0 ∨ k = 1 ∨ k = 2 ∨ k = 3 ∨ k = 4 ∨ k = 5 ∨ k = 6 ∨ k = 7 ∨ k = 8 ∨ k = 9 ∨ k = 10 ∨ k = 11 ∨ k = 12 ∨ k = 13 ∨ k = 14 ∨ k = 15 ∨ k = 16 ∨ k = 17 ∨ k = 18 ∨ k = 19 ∨ k = 20 ∨ k = 21 ∨ k = 22 ∨ k = 23 ∨ k = 24 ∨ k = 25 ∨ k = 26 ∨ k = 27 ∨ k = 28 ∨ k = 29 ∨ k = 30 ∨ k = 31 by omega) with rfl | rfl | rfl | rfl | rfl | rfl | rfl | rfl | rfl | rfl | rfl | rfl | rfl | rfl | rfl | rfl | rfl | rfl | rfl | rfl | rfl | rfl | rfl | rfl | rfl | rfl | rfl | rfl | rfl | rfl | rfl | rfl
  all_goals rfl
set_option maxRecDepth 100000 in
set_option maxHeartbeats 1000000 in
theorem l_arr {q5 qs q0 q1 q3 qa q2 q4 p1 p2 p3 p4 p5 : Nat} : ∀ i k, bq_V (l_w5 (l_w1 q5 qs q0 q1 q3 qa q2 q4) p1 p2 p3 p4 p5) 8 i → k < (bq_at (l_w5 (l_w1 q5 qs q0 q1 q3 qa q2 q4) p1 p2 p3 p4 p5) i).2 → bq_v (l_w5 (l_w1 q5 qs q0 q1 q3 qa q2 q4) p1 p2 p3 p4 p5) 8 i k = bt_v (l_al (l_w5 (l_w1 q5 qs q0 q1 q3 qa q2 q4) p1 p2 p3 p4 p5)) l_z l_z 8 i k := by
  intro i k hV hk
  have hV := l_V hV
  by_cases e : i = 0
  · subst e
    have hk4 : k < 4 := hk
    rcases (show k = 0 ∨ k = 1 ∨ k = 2 ∨ k = 3 by omega) with rfl | rfl | rfl | rfl <;> rfl
  · rcases (show i = 1 ∨ i = 2 ∨ i = 3 ∨ i = 4 ∨ i = 35 ∨ i = 36 ∨ i = 37 ∨ i = 38 ∨ i = 39 by omega) with rfl | rfl | rfl | rfl | rfl | rfl | rfl | rfl | rfl
    all_goals rfl
theorem l_lst {q5 qs q0 q1 q3 qa q2 q4 p1 p2 p3 p4 p5 : Nat} : ∀ n, bq_V (l_w5 (l_w1 q5 qs q0 q1 q3 qa q2 q4) p1 p2 p3 p4 p5) 7 n → bq_ls (l_w5 (l_w1 q5 qs q0 q1 q3 qa q2 q4) p1 p2 p3 p4 p5) n = bt_l l_z l_z n := by
  intro n hV
  have hV := l_V hV
  rcases (show n = 0 ∨ n = 1 ∨ n = 2 ∨ n = 3 by omega) with rfl | rfl | rfl | rfl <;> rfl
section
variable {w : bq_O} {q5 qs q0 q1 q3 qa q2 q4 p1 p2 p3 p4 p5 : Nat}
theorem l_up {c i : Nat} (h : bq_V w c i) : bq_V (l_w5 w p1 p2 p3 p4 p5) c i := Or.inl (Or.inl (Or.inl (Or.inl (Or.inl h))))
theorem l_u35 : bq_V (l_w5 w p1 p2 p3 p4 p5) 8 35 ∧ bq_at (l_w5 w p1 p2 p3 p4 p5) 35 = (0, 8) := ⟨Or.inl (Or.inl (Or.inl (Or.inl (Or.inr ⟨rfl, rfl⟩)))), rfl⟩
theorem l_u36 : bq_V (l_w5 w p1 p2 p3 p4 p5) 8 36 ∧ bq_at (l_w5 w p1 p2 p3 p4 p5) 36 = (0, 8) := ⟨Or.inl (Or.inl (Or.inl (Or.inr ⟨rfl, rfl⟩))), rfl⟩
theorem l_u37 : bq_V (l_w5 w p1 p2 p3 p4 p5) 8 37 ∧ bq_at (l_w5 w p1 p2 p3 p4 p5) 37 = (0, 8) := ⟨Or.inl (Or.inl (Or.inr ⟨rfl, rfl⟩)), rfl⟩
theorem l_u38 : bq_V (l_w5 w p1 p2 p3 p4 p5) 8 38 ∧ bq_at (l_w5 w p1 p2 p3 p4 p5) 38 = (0, 32) := ⟨Or.inl (Or.inr ⟨rfl, rfl⟩), rfl⟩
theorem l_u39 : bq_V (l_w5 w p1 p2 p3 p4 p5) 8 39 ∧ bq_at (l_w5 w p1 p2 p3 p4 p5) 39 = (0, 32) := ⟨Or.inr ⟨rfl, rfl⟩, rfl⟩
theorem l_b5 : bq_V (l_w1 q5 qs q0 q1 q3 qa q2 q4) 5 0 := Or.inl (Or.inl (Or.inl (Or.inl (Or.inl (Or.inl (Or.inl (Or.inl (Or.inl (Or.inl (Or.inl (Or.inr ⟨rfl, rfl⟩)))))))))))
theorem l_b4 : bq_V (l_w1 q5 qs q0 q1 q3 qa q2 q4) 4 0 := Or.inl (Or.inl (Or.inl (Or.inl (Or.inl (Or.inl (Or.inl (Or.inl (Or.inl (Or.inl (Or.inr ⟨rfl, rfl⟩))))))))))
theorem l_b70 : bq_V (l_w1 q5 qs q0 q1 q3 qa q2 q4) 7 0 := Or.inl (Or.inl (Or.inl (Or.inl (Or.inl (Or.inl (Or.inl (Or.inl (Or.inl (Or.inr ⟨rfl, rfl⟩)))))))))
theorem l_b71 : bq_V (l_w1 q5 qs q0 q1 q3 qa q2 q4) 7 1 := Or.inl (Or.inl (Or.inl (Or.inl (Or.inl (Or.inl (Or.inl (Or.inl (Or.inr ⟨rfl, rfl⟩))))))))
theorem l_b3 : bq_V (l_w1 q5 qs q0 q1 q3 qa q2 q4) 3 0 := Or.inl (Or.inl (Or.inl (Or.inl (Or.inl (Or.inl (Or.inl (Or.inr ⟨rfl, rfl⟩)))))))
theorem l_b80 : bq_V (l_w1 q5 qs q0 q1 q3 qa q2 q4) 8 0 := Or.inl (Or.inl (Or.inl (Or.inl (Or.inl (Or.inl (Or.inr ⟨rfl, rfl⟩))))))
theorem l_b81 : bq_V (l_w1 q5 qs q0 q1 q3 qa q2 q4) 8 1 := Or.inl (Or.inl (Or.inl (Or.inl (Or.inl (Or.inr ⟨rfl, rfl⟩)))))
theorem l_b82 : bq_V (l_w1 q5 qs q0 q1 q3 qa q2 q4) 8 2 := Or.inl (Or.inl (Or.inl (Or.inl (Or.inr ⟨rfl, rfl⟩))))
theorem l_b83 : bq_V (l_w1 q5 qs q0 q1 q3 qa q2 q4) 8 3 := Or.inl (Or.inl (Or.inl (Or.inr ⟨rfl, rfl⟩)))
theorem l_b84 : bq_V (l_w1 q5 qs q0 q1 q3 qa q2 q4) 8 4 := Or.inl (Or.inl (Or.inr ⟨rfl, rfl⟩))
theorem l_b72 : bq_V (l_w1 q5 qs q0 q1 q3 qa q2 q4) 7 2 := Or.inl (Or.inr ⟨rfl, rfl⟩)
theorem l_b73 : bq_V (l_w1 q5 qs q0 q1 q3 qa q2 q4) 7 3 := Or.inr ⟨rfl, rfl⟩
theorem l_b8 {n : Nat} (hn : n < 5) : bq_V (l_w1 q5 qs q0 q1 q3 qa q2 q4) 8 n ∧ bq_at (l_w1 q5 qs q0 q1 q3 qa q2 q4) n = bt_arl n := by
  rcases (show n = 0 ∨ n = 1 ∨ n = 2 ∨ n = 3 ∨ n = 4 by omega) with rfl | rfl | rfl | rfl | rfl
  · exact ⟨l_b80, rfl⟩
  · exact ⟨l_b81, rfl⟩
  · exact ⟨l_b82, rfl⟩
  · exact ⟨l_b83, rfl⟩
  · exact ⟨l_b84, rfl⟩
theorem l_ut {n : Nat} (hn : n < 5) : bq_at (l_w5 w p1 p2 p3 p4 p5) n = bq_at w n := by
  show (if 8 = 8 ∧ n = 39 then (0, 32) else if 8 = 8 ∧ n = 38 then (0, 32) else if 8 = 8 ∧ n = 37 then (0, 8) else if 8 = 8 ∧ n = 36 then (0, 8) else if 8 = 8 ∧ n = 35 then (0, 8) else bq_at w n) = _
  rw [if_neg (by omega), if_neg (by omega), if_neg (by omega), if_neg (by omega), if_neg (by omega)]
theorem l_zV : z_V (l_al (l_w5 (l_w1 q5 qs q0 q1 q3 qa q2 q4) p1 p2 p3 p4 p5)) l_z := by
  have e0 : b_nm l_z = 0 := rfl
  have e1 : b_nj l_z = 0 := rfl
  refine ⟨⟨l_up (p1 := p1) (p2 := p2) (p3 := p3) (p4 := p4) (p5 := p5) l_b3, l_up (p1 := p1) (p2 := p2) (p3 := p3) (p4 := p4) (p5 := p5) l_b4, l_up (p1 := p1) (p2 := p2) (p3 := p3) (p4 := p4) (p5 := p5) l_b5, l_up (p1 := p1) (p2 := p2) (p3 := p3) (p4 := p4) (p5 := p5) l_b70, l_up (p1 := p1) (p2 := p2) (p3 := p3) (p4 := p4) (p5 := p5) l_b71, l_up (p1 := p1) (p2 := p2) (p3 := p3) (p4 := p4) (p5 := p5) l_b72, l_up (p1 := p1) (p2 := p2) (p3 := p3) (p4 := p4) (p5 := p5) l_b73⟩, fun n hn => ⟨l_up (p1 := p1) (p2 := p2) (p3 := p3) (p4 := p4) (p5 := p5) (l_b8 hn).1, (l_ut (p1 := p1) (p2 := p2) (p3 := p3) (p4 := p4) (p5 := p5) hn).trans (l_b8 hn).2⟩, fun m => ⟨fun h => ?_, fun h => ?_⟩, fun j => ⟨fun h => ?_, fun h => ?_⟩, fun i => ⟨fun h => ?_, fun h => ?_⟩, fun n => ⟨fun h => ?_, fun h => ?_⟩, ⟨l_u35 (p1 := p1) (p2 := p2) (p3 := p3) (p4 := p4) (p5 := p5), l_u36 (p1 := p1) (p2 := p2) (p3 := p3) (p4 := p4) (p5 := p5), l_u37 (p1 := p1) (p2 := p2) (p3 := p3) (p4 := p4) (p5 := p5), l_u38 (p1 := p1) (p2 := p2) (p3 := p3) (p4 := p4) (p5 := p5), l_u39 (p1 := p1) (p2 := p2) (p3 := p3) (p4 := p4) (p5 := p5)⟩, ⟨fun i h => ?_, fun n h => ?_⟩⟩
  · have := l_V (p5 := p5) h; omega
  · rw [e0] at h; omega
  · have := l_V (p5 := p5) h; omega
  · rw [e1] at h; omega
  · have := l_V (p5 := p5) h; omega
  · have := h.1; rw [e1] at this; omega
  · have := l_V (p5 := p5) h; omega
  · rw [e0, e1] at h
    rcases (show n = 0 ∨ n = 1 ∨ n = 2 ∨ n = 3 by omega) with rfl | rfl | rfl | rfl
    · exact l_up (p1 := p1) (p2 := p2) (p3 := p3) (p4 := p4) (p5 := p5) l_b70
    · exact l_up (p1 := p1) (p2 := p2) (p3 := p3) (p4 := p4) (p5 := p5) l_b71
    · exact l_up (p1 := p1) (p2 := p2) (p3 := p3) (p4 := p4) (p5 := p5) l_b72
    · exact l_up (p1 := p1) (p2 := p2) (p3 := p3) (p4 := p4) (p5 := p5) l_b73
  · have := l_V (p5 := p5) h; omega
  · have := l_V (p5 := p5) h; omega
end
theorem l_V1 {q5 qs q0 q1 q3 qa q2 q4 c i : Nat} (h : bq_V (l_w1 q5 qs q0 q1 q3 qa q2 q4) c i) : (3 ≤ c ∧ c ≤ 5 ∧ i = 0) ∨ (c = 7 ∧ i < 4) ∨ (c = 8 ∧ i < 5) := by
  have h : (l_w1 q5 qs q0 q1 q3 qa q2 q4).1 c i := h
  simp only [l_w1, bq_n, bq_f, b_iB, b_iH, b_iH1, b_iH2, b_iS, bq_gd, l_w0, false_or] at h
  omega
theorem l_us1 {q5 qs q0 q1 q3 qa q2 q4 : Nat} : bq_us (l_w1 q5 qs q0 q1 q3 qa q2 q4) = 388 := rfl
set_option maxRecDepth 100000 in
set_option maxHeartbeats 1000000 in
theorem l_start (hn : bp_sL G < 2 ^ 31) : bq_W G mL_law 13 0 [(0, .ref (bp_sb G))] [] l_w0 (fun o _ => o = .inl (some (.int (nI 1)))) := by
  refine bq_newo (c := 5) (i := 0) dL_law_0 nw_L_9 (by decide) (fun h => h) (Nat.le_of_ble_eq_true rfl) (fun q5 => ?_)
  refine bq_dup dL_law_3 rfl ?_
  refine bq_callIp (d' := 7) dL_law_4 ml_L_52 (i_bore (w := bq_n l_w0 5 0 q5 (bq_born tyX5) (0, 0) (1 + 1)) (fun c i hc hV => Or.elim hV (fun h => h) (fun e => hc e.1)) (Or.inr ⟨rfl, rfl⟩) (Nat.le_of_ble_eq_true rfl)) (by decide) (Nat.le_of_ble_eq_true rfl) (Nat.le_of_ble_eq_true rfl) rfl (fun v w2 hp => ?_)
  obtain ⟨rfl, qs, q0, q1, q3, qa, q2, q4, rfl⟩ := hp
  rw [bq_n_ad]
  refine bq_astore_n (i := 1) dL_law_7 (by decide) ?_
  show bq_W G mL_law 13 8 _ [] (l_w1 q5 qs q0 q1 q3 qa q2 q4) _
  have hV1 := @l_V1 q5 qs q0 q1 q3 qa q2 q4
  have hU0 := @l_us1 q5 qs q0 q1 q3 qa q2 q4
  have hz := fun p1 p2 p3 p4 p5 => @l_zV q5 qs q0 q1 q3 qa q2 q4 p1 p2 p3 p4 p5
  have hv := fun p1 p2 p3 p4 p5 => @l_val q5 qs q0 q1 q3 qa q2 q4 p1 p2 p3 p4 p5
  have ha := fun p1 p2 p3 p4 p5 => @l_arr q5 qs q0 q1 q3 qa q2 q4 p1 p2 p3 p4 p5
  have hl := fun p1 p2 p3 p4 p5 => @l_lst q5 qs q0 q1 q3 qa q2 q4 p1 p2 p3 p4 p5
  have e5 : ∀ p1 p2 p3 p4 p5 : Nat, bt_ad (l_al (l_w5 (l_w1 q5 qs q0 q1 q3 qa q2 q4) p1 p2 p3 p4 p5)) 5 0 = q5 := fun _ _ _ _ _ => rfl
  generalize l_w1 q5 qs q0 q1 q3 qa q2 q4 = w1 at hV1 hU0 hz hv ha hl e5 ⊢
  refine bq_bipush (v := nI 8) dL_law_8 (by decide) ?_
  refine bq_newa (ti := 0) (N := 8) (i := 35) dL_law_10 (by decide) rfl aw_0 rfl (by decide) (by
    intro hh
    have hh : bq_V w1 8 35 := hh
    have hq : bq_V w1 8 35 := by
      exact hh
    have := hV1 hq
    omega) (by show bq_us w1 + 9 ≤ bp_max; rw [hU0]; exact Nat.le_of_ble_eq_true rfl) (fun p1 => ?_)
  rw [bq_n_ad]
  refine bq_astore_n (i := 2) dL_law_12 (by decide) ?_
  show bq_W G mL_law 13 13 _ [] (l_wA w1 p1) _
  have hU1 : bq_us (l_wA w1 p1) = 388 + 9 := by
    show bq_us w1 + 9 = _
    rw [hU0]
  refine bq_bipush (v := nI 8) dL_law_13 (by decide) ?_
  refine bq_newa (ti := 0) (N := 8) (i := 36) dL_law_15 (by decide) rfl aw_0 rfl (by decide) (by
    intro hh
    have hh : (bq_V w1 8 36 ∨ (8 = 8 ∧ 36 = 35)) := hh
    have hq : bq_V w1 8 36 := by
      rcases hh with hh | hh
      · exact hh
      · omega
    have := hV1 hq
    omega) (by show bq_us (l_wA w1 p1) + 9 ≤ bp_max; rw [hU1]; exact Nat.le_of_ble_eq_true rfl) (fun p2 => ?_)
  rw [bq_n_ad]
  refine bq_astore_n (i := 3) dL_law_17 (by decide) ?_
  show bq_W G mL_law 13 18 _ [] (l_wB (l_wA w1 p1) p2) _
  have hU2 : bq_us (l_wB (l_wA w1 p1) p2) = 388 + 9 + 9 := by
    show bq_us (l_wA w1 p1) + 9 = _
    rw [hU1]
  refine bq_bipush (v := nI 8) dL_law_18 (by decide) ?_
  refine bq_newa (ti := 0) (N := 8) (i := 37) dL_law_20 (by decide) rfl aw_0 rfl (by decide) (by
    intro hh
    have hh : ((bq_V w1 8 37 ∨ (8 = 8 ∧ 37 = 35)) ∨ (8 = 8 ∧ 37 = 36)) := hh
    have hq : bq_V w1 8 37 := by
      rcases hh with (hh | hh) | hh
      · exact hh
      · omega
      · omega
    have := hV1 hq
    omega) (by show bq_us (l_wB (l_wA w1 p1) p2) + 9 ≤ bp_max; rw [hU2]; exact Nat.le_of_ble_eq_true rfl) (fun p3 => ?_)
  rw [bq_n_ad]
  refine bq_astore (i := 4) dL_law_22 (by decide) ?_
  show bq_W G mL_law 13 24 _ [] (l_wC (l_wB (l_wA w1 p1) p2) p3) _
  have hU3 : bq_us (l_wC (l_wB (l_wA w1 p1) p2) p3) = 388 + 9 + 9 + 9 := by
    show bq_us (l_wB (l_wA w1 p1) p2) + 9 = _
    rw [hU2]
  refine bq_bipush (v := nI 32) dL_law_24 (by decide) ?_
  refine bq_newa (ti := 0) (N := 32) (i := 38) dL_law_26 (by decide) rfl aw_0 rfl (by decide) (by
    intro hh
    have hh : (((bq_V w1 8 38 ∨ (8 = 8 ∧ 38 = 35)) ∨ (8 = 8 ∧ 38 = 36)) ∨ (8 = 8 ∧ 38 = 37)) := hh
    have hq : bq_V w1 8 38 := by
      rcases hh with ((hh | hh) | hh) | hh
      · exact hh
      · omega
      · omega
      · omega
    have := hV1 hq
    omega) (by show bq_us (l_wC (l_wB (l_wA w1 p1) p2) p3) + 33 ≤ bp_max; rw [hU3]; exact Nat.le_of_ble_eq_true rfl) (fun p4 => ?_)
  rw [bq_n_ad]
  refine bq_astore (i := 5) dL_law_28 (by decide) ?_
  show bq_W G mL_law 13 30 _ [] (l_wD (l_wC (l_wB (l_wA w1 p1) p2) p3) p4) _
  have hU4 : bq_us (l_wD (l_wC (l_wB (l_wA w1 p1) p2) p3) p4) = 388 + 9 + 9 + 9 + 33 := by
    show bq_us (l_wC (l_wB (l_wA w1 p1) p2) p3) + 33 = _
    rw [hU3]
  refine bq_bipush (v := nI 32) dL_law_30 (by decide) ?_
  refine bq_newa (ti := 0) (N := 32) (i := 39) dL_law_32 (by decide) rfl aw_0 rfl (by decide) (by
    intro hh
    have hh : ((((bq_V w1 8 39 ∨ (8 = 8 ∧ 39 = 35)) ∨ (8 = 8 ∧ 39 = 36)) ∨ (8 = 8 ∧ 39 = 37)) ∨ (8 = 8 ∧ 39 = 38)) := hh
    have hq : bq_V w1 8 39 := by
      rcases hh with (((hh | hh) | hh) | hh) | hh
      · exact hh
      · omega
      · omega
      · omega
      · omega
    have := hV1 hq
    omega) (by show bq_us (l_wD (l_wC (l_wB (l_wA w1 p1) p2) p3) p4) + 33 ≤ bp_max; rw [hU4]; exact Nat.le_of_ble_eq_true rfl) (fun p5 => ?_)
  rw [bq_n_ad]
  refine bq_astore (i := 6) dL_law_34 (by decide) ?_
  show bq_W G mL_law 13 36 _ [] (l_wE (l_wD (l_wC (l_wB (l_wA w1 p1) p2) p3) p4) p5) _
  have hU5 : bq_us (l_wE (l_wD (l_wC (l_wB (l_wA w1 p1) p2) p3) p4) p5) = 388 + 9 + 9 + 9 + 33 + 33 := by
    show bq_us (l_wD (l_wC (l_wB (l_wA w1 p1) p2) p3) p4) + 33 = _
    rw [hU4]
  refine bq_iconst (v := nI 0) dL_law_36 (by decide) ?_
  refine bq_istore (i := 7) dL_law_37 (by decide) ?_
  refine bq_iconst (v := nI 0) dL_law_39 (by decide) ?_
  refine bq_istore (i := 8) dL_law_40 (by decide) ?_
  refine bq_iconst (v := nI 0) dL_law_42 (by decide) ?_
  refine bq_istore (i := 9) dL_law_43 (by decide) ?_
  show bq_W G mL_law 13 45 _ [] (l_w5 w1 p1 p2 p3 p4 p5) _
  have K := u_loop hn 56 0 (l_al (l_w5 w1 p1 p2 p3 p4 p5)) l_z l_z rfl (hz p1 p2 p3 p4 p5) l_Inv l_L (by show bq_us (l_w5 w1 p1 p2 p3 p4 p5) + _ ≤ _; rw [show bq_us (l_w5 w1 p1 p2 p3 p4 p5) = _ from hU5]; exact Nat.le_of_ble_eq_true rfl)
  rw [e5 p1 p2 p3 p4 p5] at K
  refine bq_conv (v2 := bt_v (l_al (l_w5 w1 p1 p2 p3 p4 p5)) l_z l_z) (ls2 := bt_l l_z l_z) (hv p1 p2 p3 p4 p5) (ha p1 p2 p3 p4 p5) (hl p1 p2 p3 p4 p5) ?_
  exact bq_lvs (lv' := [(0, .ref (bp_sb G)), (1, .ref q5), (2, .ref p1), (3, .ref p2), (4, .ref p3), (5, .ref p4), (6, .ref p5), (7, .int (nI 0)), (8, .int (nI 0)), (9, .int (nI 0))]) ⟨rfl, rfl, rfl, rfl, rfl, rfl, rfl, rfl, rfl, rfl, trivial⟩ K
end UST
