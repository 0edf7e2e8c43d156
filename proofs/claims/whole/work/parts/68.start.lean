/-! ===== the law: its start ===== -/
section VST
variable {G : bp_X}
def l_w0 : bq_O := (fun _ _ => False, fun _ _ => 0, fun _ _ _ => .null, fun _ => [], fun _ => (0, 0), 0)
def l_z : bt_X := (fun _ _ _ => nI 0, fun _ _ _ => none, fun _ => [])
/-- behind the three that are made -/
def l_w1 (q5 qs q0 q1 q3 qa q2 q4 : Nat) : bq_O := b_iB (bq_n l_w0 5 0 q5 (bq_born tyX5) (0, 0) 2) qs q0 q1 q3 qa q2 q4
def l_w2 (w : bq_O) (q6 : Nat) (q : Nat → Nat) : bq_O := bq_f (m_iAs q (bq_n w 6 0 q6 (bq_born tyX6) (0, 0) 26) m_aL) 6 0 0 (.int (nI 0))
def l_w3 (w : bq_O) (q9 : Nat) : bq_O := bq_n w 8 5 q9 (fun _ => defaultValue (bp_ty 2)) (2, 1) 2
def l_al (w : bq_O) : bt_A := (w.1, w.2.1, w.2.2.2.2.1, w.2.2.2.2.2)
theorem l_Inv : v_Inv l_z l_z := by
  have e0 : b_nm l_z = 0 := rfl
  have e1 : b_nj l_z = 0 := rfl
  have hop : ∀ i, ¬ v_op l_z i := fun i h => by have := h.1; rw [e1] at this; omega
  have hw : ∀ B : Nat, 0 < B → m_w B (nI 0) := fun B hB => ⟨rfl, hB⟩
  refine ⟨⟨⟨⟨rfl, by decide, rfl, by decide, fun j hj => absurd hj (by rw [e1]; omega)⟩, fun i hi => absurd hi (hop i), fun m hm => absurd hm (by rw [e0]; omega), fun f g _ _ => ⟨0, rfl, by omega⟩, fun j hj => absurd hj (by rw [e1]; omega), fun m hm => absurd hm (by rw [e0]; omega)⟩,
    ⟨fun m hm => absurd hm (by rw [e0]; omega), fun m hm => absurd hm (by rw [e0]; omega), fun m hm => absurd hm (by rw [e0]; omega), by decide⟩, fun i hi => absurd hi (hop i), fun i hi => absurd hi (hop i),
    ⟨fun m hm => absurd hm (by rw [e0]; omega), fun j hj => absurd hj (by rw [e1]; omega), List.nodup_nil, fun i hi => absurd hi List.not_mem_nil, fun n i hn => by simp [l_z] at hn, fun i hi => absurd hi List.not_mem_nil, rfl⟩, fun m hm => absurd hm (by rw [e0]; omega)⟩,
    ⟨⟨hw 5 (by omega), hw 9 (by omega), fun j _ => hw 5 (by omega)⟩, fun p _ => ⟨hw 4 (by omega), hw 4 (by omega)⟩, fun p _ => hw 256 (by omega), fun m _ _ => ⟨rfl, rfl⟩, fun j _ _ => rfl⟩,
    ⟨rfl, rfl, fun j _ => ?_, fun i hi => absurd hi (hop i), fun m hm => absurd hm (by rw [e0]; omega), fun f g _ _ => rfl, fun j hj => absurd hj (by rw [e1]; omega)⟩,
    ⟨fun m _ => ⟨hw 33 (by omega), fun k hk => ?_⟩, fun m _ => ?_, fun m hm => absurd hm (by rw [e0]; omega)⟩⟩
  · rw [if_neg (by rw [e1]; omega)]; rfl
  · exact hw 32 (by omega)
  · rw [if_neg (by rw [e0]; omega)]; rfl
end VST
