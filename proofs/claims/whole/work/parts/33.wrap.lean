/-! ===== the law's own calls of the class ===== -/
def z_o (F : Int32 ⊕ String) : bp_O := match F with
  | .inl v => .inl (some (.int v))
  | .inr E => .inr E
/-- a call ends: F the answer or what is thrown, σ' and x' the contents then, Q what holds of what stands -/
def z_P (α : bt_A) (Q : bt_A → Prop) (F : Int32 ⊕ String) (σ' x' : bt_X) : bp_O → bq_O → Prop := fun o w' => ∃ α', m_E α α' ∧ Q α' ∧ o = z_o F ∧ w' = bt α' σ' x'
def z_x (F : Int32 ⊕ String) (x' : bt_X) : bt_X := match F with
  | .inl v => bt_gs x' 8 5 0 v
  | .inr _ => x'
theorem kl_L_19 : Cond.classLink "BoreplanLaw" 19 "java/lang/IndexOutOfBoundsException" ∈ bp_UW := bp_uw 384 (by decide +kernel) (by decide +kernel)
theorem kt_L_19 : Cond.castable "java/lang/IndexOutOfBoundsException" "java/lang/IndexOutOfBoundsException" ∈ bp_UW := bp_uw 396 (by decide +kernel) (by decide +kernel)
theorem kl_L_21 : Cond.classLink "BoreplanLaw" 21 "java/lang/IllegalArgumentException" ∈ bp_UW := bp_uw 385 (by decide +kernel) (by decide +kernel)
theorem kt_L_21 : Cond.castable "java/lang/IllegalArgumentException" "java/lang/IllegalArgumentException" ∈ bp_UW := bp_uw 413 (by decide +kernel) (by decide +kernel)
theorem kl_L_13 : Cond.classLink "BoreplanLaw" 13 "java/lang/IllegalStateException" ∈ bp_UW := bp_uw 269 (by decide +kernel) (by decide +kernel)
theorem kt_L_13 : Cond.castable "java/lang/IllegalStateException" "java/lang/IllegalStateException" ∈ bp_UW := bp_uw 276 (by decide +kernel) (by decide +kernel)
def z_addMachine (F : Int32 ⊕ String) : Int32 := match F with
  | .inl _ => nI 0
  | .inr E => nI 1
set_option maxRecDepth 100000 in
set_option maxHeartbeats 1000000 in
theorem w_addMachine {G : bp_X} {α : bt_A} {σ x : bt_X} {D : Nat} (h5 : bt_V α 5 0) (hA : bt_V α 8 5 ∧ bt_at α 5 = (2, 1)) {Q : bt_A → Prop} {F : Int32 ⊕ String} {σ' x' : bt_X} (hF : ∀ E, F = .inr E → E = b_IS)
    (hM : bq_S G mX5_addMachine D [.ref (bt_ad α 5 0)] (bt α σ x) (z_P α Q F σ' x')) : bq_S G mL_addMachine (D + 1) [.ref (bt_ad α 5 0), .ref (bt_ad α 8 5)] (bt α σ x) (z_P α Q (.inl (z_addMachine F)) σ' (z_x F x')) := by
  refine bq_ofW (by decide +kernel) rfl (Nat.le_of_ble_eq_true rfl) ?_
  refine bq_aload_n (i := 1) dL_addMachine_0 rfl ?_
  refine bq_iconst (v := (nI 0)) dL_addMachine_1 (by decide) ?_
  refine bq_aload_n (i := 0) dL_addMachine_2 rfl ?_
  refine bt_callV (c := 5) (i := 0) dL_addMachine_3 rfl ml_L_7 h5 (by decide) hM (Nat.le_refl _) (by decide) (Nat.le_of_ble_eq_true rfl) rfl (fun v w' hp => ?_) (fun E w' hp => ?_)
  · obtain ⟨α', hE, hQ, eo, rfl⟩ := hp
    cases F with
    | inr E => cases eo
    | inl u =>
      cases eo
      have hA' : bt_V α' 8 5 ∧ bt_at α' 5 = (2, 1) := ⟨(hE.1 _ _ hA.1).1, (hE.2.1 5).trans hA.2⟩
      refine bq_eqs (st2 := [.int u, .int (nI 0), .ref (bt_ad α' 8 5)]) (by rw [(hE.1 _ _ hA.1).2]; rfl) ?_
      refine bq_i2l dL_addMachine_6 ?_
      refine bt_last1 (n := 5) (j := 0) dL_addMachine_7 hA' rfl (by decide) (by decide) rfl ?_
      refine bq_goto (tgt := 14) dL_addMachine_8 (by decide) ?_
      refine bq_iconst (v := nI 0) dL_addMachine_14 (by decide) ?_
      exact bq_iret dL_addMachine_15 rfl (by first | rfl | decide) ⟨α', hE, hQ, rfl, rfl⟩
  · obtain ⟨α', hE, hQ, eo, rfl⟩ := hp
    cases F with
    | inl u => cases eo
    | inr E' =>
      cases eo
      rcases hF E rfl with rfl
      · refine bq_catch (name := "java/lang/IllegalStateException") [] [] rfl (fun z hz => absurd hz List.not_mem_nil) rfl (by decide) kl_L_13 kt_L_13 (fun q => ?_)
        refine bq_astore_n (i := 2) dL_addMachine_11 (by decide) ?_
        refine bq_iconst (v := nI 1) dL_addMachine_12 (by decide) ?_
        exact bq_iret dL_addMachine_13 rfl (by first | rfl | decide) ⟨α', hE, hQ, by first | rfl | (simp [z_o, z_addMachine, b_IO, b_IA, b_IS]), rfl⟩
def z_setMagazine (F : Int32 ⊕ String) : Int32 := match F with
  | .inl _ => nI 0
  | .inr E => if E = b_IO then nI 1 else if E = b_IA then nI 2 else nI 3
set_option maxRecDepth 100000 in
set_option maxHeartbeats 1000000 in
theorem w_setMagazine {G : bp_X} {α : bt_A} {σ x : bt_X} {D : Nat} {p0 p1 : Int32} (h5 : bt_V α 5 0) (hA : bt_V α 8 5 ∧ bt_at α 5 = (2, 1)) {Q : bt_A → Prop} {F : Int32 ⊕ String} {σ' x' : bt_X} (hF : ∀ E, F = .inr E → E = b_IO ∨ E = b_IA ∨ E = b_IS)
    (hM : bq_S G mX5_setMagazine D [.ref (bt_ad α 5 0), .int p0, .int p1] (bt α σ x) (z_P α Q F σ' x')) : bq_S G mL_setMagazine (D + 1) [.ref (bt_ad α 5 0), .int p0, .int p1, .ref (bt_ad α 8 5)] (bt α σ x) (z_P α Q (.inl (z_setMagazine F)) σ' (z_x F x')) := by
  refine bq_ofW (by decide +kernel) rfl (Nat.le_of_ble_eq_true rfl) ?_
  refine bq_aload_n (i := 3) dL_setMagazine_0 rfl ?_
  refine bq_iconst (v := (nI 0)) dL_setMagazine_1 (by decide) ?_
  refine bq_aload_n (i := 0) dL_setMagazine_2 rfl ?_
  refine bq_iload_n (i := 1) dL_setMagazine_3 rfl ?_
  refine bq_iload_n (i := 2) dL_setMagazine_4 rfl ?_
  refine bt_callV (c := 5) (i := 0) dL_setMagazine_5 rfl ml_L_15 h5 (by decide) hM (Nat.le_refl _) (by decide) (Nat.le_of_ble_eq_true rfl) rfl (fun v w' hp => ?_) (fun E w' hp => ?_)
  · obtain ⟨α', hE, hQ, eo, rfl⟩ := hp
    cases F with
    | inr E => cases eo
    | inl u =>
      cases eo
      have hA' : bt_V α' 8 5 ∧ bt_at α' 5 = (2, 1) := ⟨(hE.1 _ _ hA.1).1, (hE.2.1 5).trans hA.2⟩
      refine bq_eqs (st2 := [.int u, .int (nI 0), .ref (bt_ad α' 8 5)]) (by rw [(hE.1 _ _ hA.1).2]; rfl) ?_
      refine bq_i2l dL_setMagazine_8 ?_
      refine bt_last1 (n := 5) (j := 0) dL_setMagazine_9 hA' rfl (by decide) (by decide) rfl ?_
      refine bq_goto (tgt := 25) dL_setMagazine_10 (by decide) ?_
      refine bq_iconst (v := nI 0) dL_setMagazine_25 (by decide) ?_
      exact bq_iret dL_setMagazine_26 rfl (by first | rfl | decide) ⟨α', hE, hQ, rfl, rfl⟩
  · obtain ⟨α', hE, hQ, eo, rfl⟩ := hp
    cases F with
    | inl u => cases eo
    | inr E' =>
      cases eo
      rcases hF E rfl with rfl | rfl | rfl
      · refine bq_catch (name := "java/lang/IndexOutOfBoundsException") [] [(0, 10, 17, 21), (0, 10, 21, 13)] rfl (fun z hz => absurd hz List.not_mem_nil) rfl (by decide) kl_L_19 kt_L_19 (fun q => ?_)
        refine bq_astore (i := 4) dL_setMagazine_13 (by decide) ?_
        refine bq_iconst (v := nI 1) dL_setMagazine_15 (by decide) ?_
        exact bq_iret dL_setMagazine_16 rfl (by first | rfl | decide) ⟨α', hE, hQ, by first | rfl | (simp [z_o, z_setMagazine, b_IO, b_IA, b_IS]), rfl⟩
      · refine bq_catch (name := "java/lang/IllegalArgumentException") [(0, 10, 13, 19)] [(0, 10, 21, 13)] rfl (fun z hz => by
          simp only [List.mem_cons, List.not_mem_nil, or_false] at hz
          subst hz
          · exact Or.inr ⟨by decide, "java/lang/IndexOutOfBoundsException", kl_L_19, by decide +kernel⟩) rfl (by decide) kl_L_21 kt_L_21 (fun q => ?_)
        refine bq_astore (i := 4) dL_setMagazine_17 (by decide) ?_
        refine bq_iconst (v := nI 2) dL_setMagazine_19 (by decide) ?_
        exact bq_iret dL_setMagazine_20 rfl (by first | rfl | decide) ⟨α', hE, hQ, by first | rfl | (simp [z_o, z_setMagazine, b_IO, b_IA, b_IS]), rfl⟩
      · refine bq_catch (name := "java/lang/IllegalStateException") [(0, 10, 13, 19), (0, 10, 17, 21)] [] rfl (fun z hz => by
          simp only [List.mem_cons, List.not_mem_nil, or_false] at hz
          rcases hz with rfl | rfl
          · exact Or.inr ⟨by decide, "java/lang/IndexOutOfBoundsException", kl_L_19, by decide +kernel⟩
          · exact Or.inr ⟨by decide, "java/lang/IllegalArgumentException", kl_L_21, by decide +kernel⟩) rfl (by decide) kl_L_13 kt_L_13 (fun q => ?_)
        refine bq_astore (i := 4) dL_setMagazine_21 (by decide) ?_
        refine bq_iconst (v := nI 3) dL_setMagazine_23 (by decide) ?_
        exact bq_iret dL_setMagazine_24 rfl (by first | rfl | decide) ⟨α', hE, hQ, by first | rfl | (simp [z_o, z_setMagazine, b_IO, b_IA, b_IS]), rfl⟩
def z_breakdown (F : Int32 ⊕ String) : Int32 := match F with
  | .inl _ => nI 0
  | .inr E => if E = b_IO then nI 1 else nI 2
set_option maxRecDepth 100000 in
set_option maxHeartbeats 1000000 in
theorem w_breakdown {G : bp_X} {α : bt_A} {σ x : bt_X} {D : Nat} {p0 p1 p2 : Int32} (h5 : bt_V α 5 0) (hA : bt_V α 8 5 ∧ bt_at α 5 = (2, 1)) {Q : bt_A → Prop} {F : Int32 ⊕ String} {σ' x' : bt_X} (hF : ∀ E, F = .inr E → E = b_IO ∨ E = b_IA)
    (hM : bq_S G mX5_breakdown D [.ref (bt_ad α 5 0), .int p0, .int p1, .int p2] (bt α σ x) (z_P α Q F σ' x')) : bq_S G mL_breakdown (D + 1) [.ref (bt_ad α 5 0), .int p0, .int p1, .int p2, .ref (bt_ad α 8 5)] (bt α σ x) (z_P α Q (.inl (z_breakdown F)) σ' (z_x F x')) := by
  refine bq_ofW (by decide +kernel) rfl (Nat.le_of_ble_eq_true rfl) ?_
  refine bq_aload (i := 4) dL_breakdown_0 rfl ?_
  refine bq_iconst (v := (nI 0)) dL_breakdown_2 (by decide) ?_
  refine bq_aload_n (i := 0) dL_breakdown_3 rfl ?_
  refine bq_iload_n (i := 1) dL_breakdown_4 rfl ?_
  refine bq_iload_n (i := 2) dL_breakdown_5 rfl ?_
  refine bq_iload_n (i := 3) dL_breakdown_6 rfl ?_
  refine bt_callV (c := 5) (i := 0) dL_breakdown_7 rfl ml_L_23 h5 (by decide) hM (Nat.le_refl _) (by decide) (Nat.le_of_ble_eq_true rfl) rfl (fun v w' hp => ?_) (fun E w' hp => ?_)
  · obtain ⟨α', hE, hQ, eo, rfl⟩ := hp
    cases F with
    | inr E => cases eo
    | inl u =>
      cases eo
      have hA' : bt_V α' 8 5 ∧ bt_at α' 5 = (2, 1) := ⟨(hE.1 _ _ hA.1).1, (hE.2.1 5).trans hA.2⟩
      refine bq_eqs (st2 := [.int u, .int (nI 0), .ref (bt_ad α' 8 5)]) (by rw [(hE.1 _ _ hA.1).2]; rfl) ?_
      refine bq_i2l dL_breakdown_10 ?_
      refine bt_last1 (n := 5) (j := 0) dL_breakdown_11 hA' rfl (by decide) (by decide) rfl ?_
      refine bq_goto (tgt := 23) dL_breakdown_12 (by decide) ?_
      refine bq_iconst (v := nI 0) dL_breakdown_23 (by decide) ?_
      exact bq_iret dL_breakdown_24 rfl (by first | rfl | decide) ⟨α', hE, hQ, rfl, rfl⟩
  · obtain ⟨α', hE, hQ, eo, rfl⟩ := hp
    cases F with
    | inl u => cases eo
    | inr E' =>
      cases eo
      rcases hF E rfl with rfl | rfl
      · refine bq_catch (name := "java/lang/IndexOutOfBoundsException") [] [(0, 12, 19, 21)] rfl (fun z hz => absurd hz List.not_mem_nil) rfl (by decide) kl_L_19 kt_L_19 (fun q => ?_)
        refine bq_astore (i := 5) dL_breakdown_15 (by decide) ?_
        refine bq_iconst (v := nI 1) dL_breakdown_17 (by decide) ?_
        exact bq_iret dL_breakdown_18 rfl (by first | rfl | decide) ⟨α', hE, hQ, by first | rfl | (simp [z_o, z_breakdown, b_IO, b_IA, b_IS]), rfl⟩
      · refine bq_catch (name := "java/lang/IllegalArgumentException") [(0, 12, 15, 19)] [] rfl (fun z hz => by
          simp only [List.mem_cons, List.not_mem_nil, or_false] at hz
          subst hz
          · exact Or.inr ⟨by decide, "java/lang/IndexOutOfBoundsException", kl_L_19, by decide +kernel⟩) rfl (by decide) kl_L_21 kt_L_21 (fun q => ?_)
        refine bq_astore (i := 5) dL_breakdown_19 (by decide) ?_
        refine bq_iconst (v := nI 2) dL_breakdown_21 (by decide) ?_
        exact bq_iret dL_breakdown_22 rfl (by first | rfl | decide) ⟨α', hE, hQ, by first | rfl | (simp [z_o, z_breakdown, b_IO, b_IA, b_IS]), rfl⟩
def z_repair (F : Int32 ⊕ String) : Int32 := match F with
  | .inl _ => nI 0
  | .inr E => nI 1
set_option maxRecDepth 100000 in
set_option maxHeartbeats 1000000 in
theorem w_repair {G : bp_X} {α : bt_A} {σ x : bt_X} {D : Nat} {p0 : Int32} (h5 : bt_V α 5 0) (hA : bt_V α 8 5 ∧ bt_at α 5 = (2, 1)) {Q : bt_A → Prop} {F : Int32 ⊕ String} {σ' x' : bt_X} (hF : ∀ E, F = .inr E → E = b_IO) (hb : ∀ u, F = .inl u → u = nI 0 ∨ u = nI 1)
    (hM : bq_S G mX5_repair D [.ref (bt_ad α 5 0), .int p0] (bt α σ x) (z_P α Q F σ' x')) : bq_S G mL_repair (D + 1) [.ref (bt_ad α 5 0), .int p0, .ref (bt_ad α 8 5)] (bt α σ x) (z_P α Q (.inl (z_repair F)) σ' (z_x F x')) := by
  refine bq_ofW (by decide +kernel) rfl (Nat.le_of_ble_eq_true rfl) ?_
  refine bq_aload_n (i := 2) dL_repair_0 rfl ?_
  refine bq_iconst (v := (nI 0)) dL_repair_1 (by decide) ?_
  refine bq_aload_n (i := 0) dL_repair_2 rfl ?_
  refine bq_iload_n (i := 1) dL_repair_3 rfl ?_
  refine bt_callV (c := 5) (i := 0) dL_repair_4 rfl ml_L_27 h5 (by decide) hM (Nat.le_refl _) (by decide) (Nat.le_of_ble_eq_true rfl) rfl (fun v w' hp => ?_) (fun E w' hp => ?_)
  · obtain ⟨α', hE, hQ, eo, rfl⟩ := hp
    cases F with
    | inr E => cases eo
    | inl u =>
      cases eo
      have hA' : bt_V α' 8 5 ∧ bt_at α' 5 = (2, 1) := ⟨(hE.1 _ _ hA.1).1, (hE.2.1 5).trans hA.2⟩
      refine bq_eqs (st2 := [.int u, .int (nI 0), .ref (bt_ad α' 8 5)]) (by rw [(hE.1 _ _ hA.1).2]; rfl) ?_
      refine bq_if_eq (tgt := 14) dL_repair_7 (by decide) (fun c => ?_) (fun c => ?_)
      · refine bq_lconst dL_repair_14 rfl ?_
        have eu : u = nI 0 := c
        subst eu
        refine bq_eqs (st2 := [.long (nI 0).toInt64, .int (nI 0), .ref (bt_ad α' 8 5)]) (by congr 1) ?_
        refine bt_last1 (n := 5) (j := 0) dL_repair_15 hA' rfl (by decide) (by decide) rfl ?_
        refine bq_goto (tgt := 22) dL_repair_16 (by decide) ?_
        refine bq_iconst (v := nI 0) dL_repair_22 (by decide) ?_
        exact bq_iret dL_repair_23 rfl (by first | rfl | decide) ⟨α', hE, hQ, rfl, rfl⟩
      · refine bq_lconst dL_repair_10 rfl ?_
        have eu : u = nI 1 := (hb u rfl).resolve_left c
        subst eu
        refine bq_goto (tgt := 15) dL_repair_11 (by decide) ?_
        refine bq_eqs (st2 := [.long (nI 1).toInt64, .int (nI 0), .ref (bt_ad α' 8 5)]) (by congr 1) ?_
        refine bt_last1 (n := 5) (j := 0) dL_repair_15 hA' rfl (by decide) (by decide) rfl ?_
        refine bq_goto (tgt := 22) dL_repair_16 (by decide) ?_
        refine bq_iconst (v := nI 0) dL_repair_22 (by decide) ?_
        exact bq_iret dL_repair_23 rfl (by first | rfl | decide) ⟨α', hE, hQ, rfl, rfl⟩
  · obtain ⟨α', hE, hQ, eo, rfl⟩ := hp
    cases F with
    | inl u => cases eo
    | inr E' =>
      cases eo
      rcases hF E rfl with rfl
      · refine bq_catch (name := "java/lang/IndexOutOfBoundsException") [] [] rfl (fun z hz => absurd hz List.not_mem_nil) rfl (by decide) kl_L_19 kt_L_19 (fun q => ?_)
        refine bq_astore_n (i := 3) dL_repair_19 (by decide) ?_
        refine bq_iconst (v := nI 1) dL_repair_20 (by decide) ?_
        exact bq_iret dL_repair_21 rfl (by first | rfl | decide) ⟨α', hE, hQ, by first | rfl | (simp [z_o, z_repair, b_IO, b_IA, b_IS]), rfl⟩
def z_addJob (F : Int32 ⊕ String) : Int32 := match F with
  | .inl _ => nI 0
  | .inr E => if E = b_IA then nI 1 else nI 2
set_option maxRecDepth 100000 in
set_option maxHeartbeats 1000000 in
theorem w_addJob {G : bp_X} {α : bt_A} {σ x : bt_X} {D : Nat} {p0 : Int32} (h5 : bt_V α 5 0) (hA : bt_V α 8 5 ∧ bt_at α 5 = (2, 1)) {Q : bt_A → Prop} {F : Int32 ⊕ String} {σ' x' : bt_X} (hF : ∀ E, F = .inr E → E = b_IA ∨ E = b_IS)
    (hM : bq_S G mX5_addJob D [.ref (bt_ad α 5 0), .int p0] (bt α σ x) (z_P α Q F σ' x')) : bq_S G mL_addJob (D + 1) [.ref (bt_ad α 5 0), .int p0, .ref (bt_ad α 8 5)] (bt α σ x) (z_P α Q (.inl (z_addJob F)) σ' (z_x F x')) := by
  refine bq_ofW (by decide +kernel) rfl (Nat.le_of_ble_eq_true rfl) ?_
  refine bq_aload_n (i := 2) dL_addJob_0 rfl ?_
  refine bq_iconst (v := (nI 0)) dL_addJob_1 (by decide) ?_
  refine bq_aload_n (i := 0) dL_addJob_2 rfl ?_
  refine bq_iload_n (i := 1) dL_addJob_3 rfl ?_
  refine bt_callV (c := 5) (i := 0) dL_addJob_4 rfl ml_L_31 h5 (by decide) hM (Nat.le_refl _) (by decide) (Nat.le_of_ble_eq_true rfl) rfl (fun v w' hp => ?_) (fun E w' hp => ?_)
  · obtain ⟨α', hE, hQ, eo, rfl⟩ := hp
    cases F with
    | inr E => cases eo
    | inl u =>
      cases eo
      have hA' : bt_V α' 8 5 ∧ bt_at α' 5 = (2, 1) := ⟨(hE.1 _ _ hA.1).1, (hE.2.1 5).trans hA.2⟩
      refine bq_eqs (st2 := [.int u, .int (nI 0), .ref (bt_ad α' 8 5)]) (by rw [(hE.1 _ _ hA.1).2]; rfl) ?_
      refine bq_i2l dL_addJob_7 ?_
      refine bt_last1 (n := 5) (j := 0) dL_addJob_8 hA' rfl (by decide) (by decide) rfl ?_
      refine bq_goto (tgt := 18) dL_addJob_9 (by decide) ?_
      refine bq_iconst (v := nI 0) dL_addJob_18 (by decide) ?_
      exact bq_iret dL_addJob_19 rfl (by first | rfl | decide) ⟨α', hE, hQ, rfl, rfl⟩
  · obtain ⟨α', hE, hQ, eo, rfl⟩ := hp
    cases F with
    | inl u => cases eo
    | inr E' =>
      cases eo
      rcases hF E rfl with rfl | rfl
      · refine bq_catch (name := "java/lang/IllegalArgumentException") [] [(0, 9, 15, 13)] rfl (fun z hz => absurd hz List.not_mem_nil) rfl (by decide) kl_L_21 kt_L_21 (fun q => ?_)
        refine bq_astore_n (i := 3) dL_addJob_12 (by decide) ?_
        refine bq_iconst (v := nI 1) dL_addJob_13 (by decide) ?_
        exact bq_iret dL_addJob_14 rfl (by first | rfl | decide) ⟨α', hE, hQ, by first | rfl | (simp [z_o, z_addJob, b_IO, b_IA, b_IS]), rfl⟩
      · refine bq_catch (name := "java/lang/IllegalStateException") [(0, 9, 12, 21)] [] rfl (fun z hz => by
          simp only [List.mem_cons, List.not_mem_nil, or_false] at hz
          subst hz
          · exact Or.inr ⟨by decide, "java/lang/IllegalArgumentException", kl_L_21, by decide +kernel⟩) rfl (by decide) kl_L_13 kt_L_13 (fun q => ?_)
        refine bq_astore_n (i := 3) dL_addJob_15 (by decide) ?_
        refine bq_iconst (v := nI 2) dL_addJob_16 (by decide) ?_
        exact bq_iret dL_addJob_17 rfl (by first | rfl | decide) ⟨α', hE, hQ, by first | rfl | (simp [z_o, z_addJob, b_IO, b_IA, b_IS]), rfl⟩
def z_addOperation (F : Int32 ⊕ String) : Int32 := match F with
  | .inl _ => nI 0
  | .inr E => if E = b_IO then nI 1 else if E = b_IA then nI 2 else nI 3
set_option maxRecDepth 100000 in
set_option maxHeartbeats 1000000 in
theorem w_addOperation {G : bp_X} {α : bt_A} {σ x : bt_X} {D : Nat} {p0 p1 p2 p3 p4 : Int32} (h5 : bt_V α 5 0) (hA : bt_V α 8 5 ∧ bt_at α 5 = (2, 1)) {Q : bt_A → Prop} {F : Int32 ⊕ String} {σ' x' : bt_X} (hF : ∀ E, F = .inr E → E = b_IO ∨ E = b_IA ∨ E = b_IS)
    (hM : bq_S G mX5_addOperation D [.ref (bt_ad α 5 0), .int p0, .int p1, .int p2, .int p3, .int p4] (bt α σ x) (z_P α Q F σ' x')) : bq_S G mL_addOperation (D + 1) [.ref (bt_ad α 5 0), .int p0, .int p1, .int p2, .int p3, .int p4, .ref (bt_ad α 8 5)] (bt α σ x) (z_P α Q (.inl (z_addOperation F)) σ' (z_x F x')) := by
  refine bq_ofW (by decide +kernel) rfl (Nat.le_of_ble_eq_true rfl) ?_
  refine bq_aload (i := 6) dL_addOperation_0 rfl ?_
  refine bq_iconst (v := (nI 0)) dL_addOperation_2 (by decide) ?_
  refine bq_aload_n (i := 0) dL_addOperation_3 rfl ?_
  refine bq_iload_n (i := 1) dL_addOperation_4 rfl ?_
  refine bq_iload_n (i := 2) dL_addOperation_5 rfl ?_
  refine bq_iload_n (i := 3) dL_addOperation_6 rfl ?_
  refine bq_iload (i := 4) dL_addOperation_7 rfl ?_
  refine bq_iload (i := 5) dL_addOperation_9 rfl ?_
  refine bt_callV (c := 5) (i := 0) dL_addOperation_11 rfl ml_L_35 h5 (by decide) hM (Nat.le_refl _) (by decide) (Nat.le_of_ble_eq_true rfl) rfl (fun v w' hp => ?_) (fun E w' hp => ?_)
  · obtain ⟨α', hE, hQ, eo, rfl⟩ := hp
    cases F with
    | inr E => cases eo
    | inl u =>
      cases eo
      have hA' : bt_V α' 8 5 ∧ bt_at α' 5 = (2, 1) := ⟨(hE.1 _ _ hA.1).1, (hE.2.1 5).trans hA.2⟩
      refine bq_eqs (st2 := [.int u, .int (nI 0), .ref (bt_ad α' 8 5)]) (by rw [(hE.1 _ _ hA.1).2]; rfl) ?_
      refine bq_i2l dL_addOperation_14 ?_
      refine bt_last1 (n := 5) (j := 0) dL_addOperation_15 hA' rfl (by decide) (by decide) rfl ?_
      refine bq_goto (tgt := 31) dL_addOperation_16 (by decide) ?_
      refine bq_iconst (v := nI 0) dL_addOperation_31 (by decide) ?_
      exact bq_iret dL_addOperation_32 rfl (by first | rfl | decide) ⟨α', hE, hQ, rfl, rfl⟩
  · obtain ⟨α', hE, hQ, eo, rfl⟩ := hp
    cases F with
    | inl u => cases eo
    | inr E' =>
      cases eo
      rcases hF E rfl with rfl | rfl | rfl
      · refine bq_catch (name := "java/lang/IndexOutOfBoundsException") [] [(0, 16, 23, 21), (0, 16, 27, 13)] rfl (fun z hz => absurd hz List.not_mem_nil) rfl (by decide) kl_L_19 kt_L_19 (fun q => ?_)
        refine bq_astore (i := 7) dL_addOperation_19 (by decide) ?_
        refine bq_iconst (v := nI 1) dL_addOperation_21 (by decide) ?_
        exact bq_iret dL_addOperation_22 rfl (by first | rfl | decide) ⟨α', hE, hQ, by first | rfl | (simp [z_o, z_addOperation, b_IO, b_IA, b_IS]), rfl⟩
      · refine bq_catch (name := "java/lang/IllegalArgumentException") [(0, 16, 19, 19)] [(0, 16, 27, 13)] rfl (fun z hz => by
          simp only [List.mem_cons, List.not_mem_nil, or_false] at hz
          subst hz
          · exact Or.inr ⟨by decide, "java/lang/IndexOutOfBoundsException", kl_L_19, by decide +kernel⟩) rfl (by decide) kl_L_21 kt_L_21 (fun q => ?_)
        refine bq_astore (i := 7) dL_addOperation_23 (by decide) ?_
        refine bq_iconst (v := nI 2) dL_addOperation_25 (by decide) ?_
        exact bq_iret dL_addOperation_26 rfl (by first | rfl | decide) ⟨α', hE, hQ, by first | rfl | (simp [z_o, z_addOperation, b_IO, b_IA, b_IS]), rfl⟩
      · refine bq_catch (name := "java/lang/IllegalStateException") [(0, 16, 19, 19), (0, 16, 23, 21)] [] rfl (fun z hz => by
          simp only [List.mem_cons, List.not_mem_nil, or_false] at hz
          rcases hz with rfl | rfl
          · exact Or.inr ⟨by decide, "java/lang/IndexOutOfBoundsException", kl_L_19, by decide +kernel⟩
          · exact Or.inr ⟨by decide, "java/lang/IllegalArgumentException", kl_L_21, by decide +kernel⟩) rfl (by decide) kl_L_13 kt_L_13 (fun q => ?_)
        refine bq_astore (i := 7) dL_addOperation_27 (by decide) ?_
        refine bq_iconst (v := nI 3) dL_addOperation_29 (by decide) ?_
        exact bq_iret dL_addOperation_30 rfl (by first | rfl | decide) ⟨α', hE, hQ, by first | rfl | (simp [z_o, z_addOperation, b_IO, b_IA, b_IS]), rfl⟩
def z_setSetup (F : Int32 ⊕ String) : Int32 := match F with
  | .inl _ => nI 0
  | .inr E => if E = b_IO then nI 1 else nI 2
set_option maxRecDepth 100000 in
set_option maxHeartbeats 1000000 in
theorem w_setSetup {G : bp_X} {α : bt_A} {σ x : bt_X} {D : Nat} {p0 p1 p2 : Int32} (h5 : bt_V α 5 0) (hA : bt_V α 8 5 ∧ bt_at α 5 = (2, 1)) {Q : bt_A → Prop} {F : Int32 ⊕ String} {σ' x' : bt_X} (hF : ∀ E, F = .inr E → E = b_IO ∨ E = b_IA)
    (hM : bq_S G mX5_setSetup D [.ref (bt_ad α 5 0), .int p0, .int p1, .int p2] (bt α σ x) (z_P α Q F σ' x')) : bq_S G mL_setSetup (D + 1) [.ref (bt_ad α 5 0), .int p0, .int p1, .int p2, .ref (bt_ad α 8 5)] (bt α σ x) (z_P α Q (.inl (z_setSetup F)) σ' (z_x F x')) := by
  refine bq_ofW (by decide +kernel) rfl (Nat.le_of_ble_eq_true rfl) ?_
  refine bq_aload (i := 4) dL_setSetup_0 rfl ?_
  refine bq_iconst (v := (nI 0)) dL_setSetup_2 (by decide) ?_
  refine bq_aload_n (i := 0) dL_setSetup_3 rfl ?_
  refine bq_iload_n (i := 1) dL_setSetup_4 rfl ?_
  refine bq_iload_n (i := 2) dL_setSetup_5 rfl ?_
  refine bq_iload_n (i := 3) dL_setSetup_6 rfl ?_
  refine bt_callV (c := 5) (i := 0) dL_setSetup_7 rfl ml_L_39 h5 (by decide) hM (Nat.le_refl _) (by decide) (Nat.le_of_ble_eq_true rfl) rfl (fun v w' hp => ?_) (fun E w' hp => ?_)
  · obtain ⟨α', hE, hQ, eo, rfl⟩ := hp
    cases F with
    | inr E => cases eo
    | inl u =>
      cases eo
      have hA' : bt_V α' 8 5 ∧ bt_at α' 5 = (2, 1) := ⟨(hE.1 _ _ hA.1).1, (hE.2.1 5).trans hA.2⟩
      refine bq_eqs (st2 := [.int u, .int (nI 0), .ref (bt_ad α' 8 5)]) (by rw [(hE.1 _ _ hA.1).2]; rfl) ?_
      refine bq_i2l dL_setSetup_10 ?_
      refine bt_last1 (n := 5) (j := 0) dL_setSetup_11 hA' rfl (by decide) (by decide) rfl ?_
      refine bq_goto (tgt := 23) dL_setSetup_12 (by decide) ?_
      refine bq_iconst (v := nI 0) dL_setSetup_23 (by decide) ?_
      exact bq_iret dL_setSetup_24 rfl (by first | rfl | decide) ⟨α', hE, hQ, rfl, rfl⟩
  · obtain ⟨α', hE, hQ, eo, rfl⟩ := hp
    cases F with
    | inl u => cases eo
    | inr E' =>
      cases eo
      rcases hF E rfl with rfl | rfl
      · refine bq_catch (name := "java/lang/IndexOutOfBoundsException") [] [(0, 12, 19, 21)] rfl (fun z hz => absurd hz List.not_mem_nil) rfl (by decide) kl_L_19 kt_L_19 (fun q => ?_)
        refine bq_astore (i := 5) dL_setSetup_15 (by decide) ?_
        refine bq_iconst (v := nI 1) dL_setSetup_17 (by decide) ?_
        exact bq_iret dL_setSetup_18 rfl (by first | rfl | decide) ⟨α', hE, hQ, by first | rfl | (simp [z_o, z_setSetup, b_IO, b_IA, b_IS]), rfl⟩
      · refine bq_catch (name := "java/lang/IllegalArgumentException") [(0, 12, 15, 19)] [] rfl (fun z hz => by
          simp only [List.mem_cons, List.not_mem_nil, or_false] at hz
          subst hz
          · exact Or.inr ⟨by decide, "java/lang/IndexOutOfBoundsException", kl_L_19, by decide +kernel⟩) rfl (by decide) kl_L_21 kt_L_21 (fun q => ?_)
        refine bq_astore (i := 5) dL_setSetup_19 (by decide) ?_
        refine bq_iconst (v := nI 2) dL_setSetup_21 (by decide) ?_
        exact bq_iret dL_setSetup_22 rfl (by first | rfl | decide) ⟨α', hE, hQ, by first | rfl | (simp [z_o, z_setSetup, b_IO, b_IA, b_IS]), rfl⟩
def z_place (F : Int32 ⊕ String) : Int32 := match F with
  | .inl _ => nI 0
  | .inr E => if E = b_IO then nI 1 else nI 2
set_option maxRecDepth 100000 in
set_option maxHeartbeats 1000000 in
theorem w_place {G : bp_X} {α : bt_A} {σ x : bt_X} {D : Nat} {p0 : Int32} (h5 : bt_V α 5 0) (hA : bt_V α 8 5 ∧ bt_at α 5 = (2, 1)) {Q : bt_A → Prop} {F : Int32 ⊕ String} {σ' x' : bt_X} (hF : ∀ E, F = .inr E → E = b_IO ∨ E = b_IS)
    (hM : bq_S G mX5_place D [.ref (bt_ad α 5 0), .int p0] (bt α σ x) (z_P α Q F σ' x')) : bq_S G mL_place (D + 1) [.ref (bt_ad α 5 0), .int p0, .ref (bt_ad α 8 5)] (bt α σ x) (z_P α Q (.inl (z_place F)) σ' (z_x F x')) := by
  refine bq_ofW (by decide +kernel) rfl (Nat.le_of_ble_eq_true rfl) ?_
  refine bq_aload_n (i := 2) dL_place_0 rfl ?_
  refine bq_iconst (v := (nI 0)) dL_place_1 (by decide) ?_
  refine bq_aload_n (i := 0) dL_place_2 rfl ?_
  refine bq_iload_n (i := 1) dL_place_3 rfl ?_
  refine bt_callV (c := 5) (i := 0) dL_place_4 rfl ml_L_42 h5 (by decide) hM (Nat.le_refl _) (by decide) (Nat.le_of_ble_eq_true rfl) rfl (fun v w' hp => ?_) (fun E w' hp => ?_)
  · obtain ⟨α', hE, hQ, eo, rfl⟩ := hp
    cases F with
    | inr E => cases eo
    | inl u =>
      cases eo
      have hA' : bt_V α' 8 5 ∧ bt_at α' 5 = (2, 1) := ⟨(hE.1 _ _ hA.1).1, (hE.2.1 5).trans hA.2⟩
      refine bq_eqs (st2 := [.int u, .int (nI 0), .ref (bt_ad α' 8 5)]) (by rw [(hE.1 _ _ hA.1).2]; rfl) ?_
      refine bq_i2l dL_place_7 ?_
      refine bt_last1 (n := 5) (j := 0) dL_place_8 hA' rfl (by decide) (by decide) rfl ?_
      refine bq_goto (tgt := 18) dL_place_9 (by decide) ?_
      refine bq_iconst (v := nI 0) dL_place_18 (by decide) ?_
      exact bq_iret dL_place_19 rfl (by first | rfl | decide) ⟨α', hE, hQ, rfl, rfl⟩
  · obtain ⟨α', hE, hQ, eo, rfl⟩ := hp
    cases F with
    | inl u => cases eo
    | inr E' =>
      cases eo
      rcases hF E rfl with rfl | rfl
      · refine bq_catch (name := "java/lang/IndexOutOfBoundsException") [] [(0, 9, 15, 13)] rfl (fun z hz => absurd hz List.not_mem_nil) rfl (by decide) kl_L_19 kt_L_19 (fun q => ?_)
        refine bq_astore_n (i := 3) dL_place_12 (by decide) ?_
        refine bq_iconst (v := nI 1) dL_place_13 (by decide) ?_
        exact bq_iret dL_place_14 rfl (by first | rfl | decide) ⟨α', hE, hQ, by first | rfl | (simp [z_o, z_place, b_IO, b_IA, b_IS]), rfl⟩
      · refine bq_catch (name := "java/lang/IllegalStateException") [(0, 9, 12, 19)] [] rfl (fun z hz => by
          simp only [List.mem_cons, List.not_mem_nil, or_false] at hz
          subst hz
          · exact Or.inr ⟨by decide, "java/lang/IndexOutOfBoundsException", kl_L_19, by decide +kernel⟩) rfl (by decide) kl_L_13 kt_L_13 (fun q => ?_)
        refine bq_astore_n (i := 3) dL_place_15 (by decide) ?_
        refine bq_iconst (v := nI 2) dL_place_16 (by decide) ?_
        exact bq_iret dL_place_17 rfl (by first | rfl | decide) ⟨α', hE, hQ, by first | rfl | (simp [z_o, z_place, b_IO, b_IA, b_IS]), rfl⟩
def z_rush (F : Int32 ⊕ String) : Int32 := match F with
  | .inl _ => nI 0
  | .inr E => if E = b_IO then nI 1 else nI 2
set_option maxRecDepth 100000 in
set_option maxHeartbeats 1000000 in
theorem w_rush {G : bp_X} {α : bt_A} {σ x : bt_X} {D : Nat} {p0 : Int32} (h5 : bt_V α 5 0) (hA : bt_V α 8 5 ∧ bt_at α 5 = (2, 1)) {Q : bt_A → Prop} {F : Int32 ⊕ String} {σ' x' : bt_X} (hF : ∀ E, F = .inr E → E = b_IO ∨ E = b_IS)
    (hM : bq_S G mX5_rush D [.ref (bt_ad α 5 0), .int p0] (bt α σ x) (z_P α Q F σ' x')) : bq_S G mL_rush (D + 1) [.ref (bt_ad α 5 0), .int p0, .ref (bt_ad α 8 5)] (bt α σ x) (z_P α Q (.inl (z_rush F)) σ' (z_x F x')) := by
  refine bq_ofW (by decide +kernel) rfl (Nat.le_of_ble_eq_true rfl) ?_
  refine bq_aload_n (i := 2) dL_rush_0 rfl ?_
  refine bq_iconst (v := (nI 0)) dL_rush_1 (by decide) ?_
  refine bq_aload_n (i := 0) dL_rush_2 rfl ?_
  refine bq_iload_n (i := 1) dL_rush_3 rfl ?_
  refine bt_callV (c := 5) (i := 0) dL_rush_4 rfl ml_L_45 h5 (by decide) hM (Nat.le_refl _) (by decide) (Nat.le_of_ble_eq_true rfl) rfl (fun v w' hp => ?_) (fun E w' hp => ?_)
  · obtain ⟨α', hE, hQ, eo, rfl⟩ := hp
    cases F with
    | inr E => cases eo
    | inl u =>
      cases eo
      have hA' : bt_V α' 8 5 ∧ bt_at α' 5 = (2, 1) := ⟨(hE.1 _ _ hA.1).1, (hE.2.1 5).trans hA.2⟩
      refine bq_eqs (st2 := [.int u, .int (nI 0), .ref (bt_ad α' 8 5)]) (by rw [(hE.1 _ _ hA.1).2]; rfl) ?_
      refine bq_i2l dL_rush_7 ?_
      refine bt_last1 (n := 5) (j := 0) dL_rush_8 hA' rfl (by decide) (by decide) rfl ?_
      refine bq_goto (tgt := 18) dL_rush_9 (by decide) ?_
      refine bq_iconst (v := nI 0) dL_rush_18 (by decide) ?_
      exact bq_iret dL_rush_19 rfl (by first | rfl | decide) ⟨α', hE, hQ, rfl, rfl⟩
  · obtain ⟨α', hE, hQ, eo, rfl⟩ := hp
    cases F with
    | inl u => cases eo
    | inr E' =>
      cases eo
      rcases hF E rfl with rfl | rfl
      · refine bq_catch (name := "java/lang/IndexOutOfBoundsException") [] [(0, 9, 15, 13)] rfl (fun z hz => absurd hz List.not_mem_nil) rfl (by decide) kl_L_19 kt_L_19 (fun q => ?_)
        refine bq_astore_n (i := 3) dL_rush_12 (by decide) ?_
        refine bq_iconst (v := nI 1) dL_rush_13 (by decide) ?_
        exact bq_iret dL_rush_14 rfl (by first | rfl | decide) ⟨α', hE, hQ, by first | rfl | (simp [z_o, z_rush, b_IO, b_IA, b_IS]), rfl⟩
      · refine bq_catch (name := "java/lang/IllegalStateException") [(0, 9, 12, 19)] [] rfl (fun z hz => by
          simp only [List.mem_cons, List.not_mem_nil, or_false] at hz
          subst hz
          · exact Or.inr ⟨by decide, "java/lang/IndexOutOfBoundsException", kl_L_19, by decide +kernel⟩) rfl (by decide) kl_L_13 kt_L_13 (fun q => ?_)
        refine bq_astore_n (i := 3) dL_rush_15 (by decide) ?_
        refine bq_iconst (v := nI 2) dL_rush_16 (by decide) ?_
        exact bq_iret dL_rush_17 rfl (by first | rfl | decide) ⟨α', hE, hQ, by first | rfl | (simp [z_o, z_rush, b_IO, b_IA, b_IS]), rfl⟩
def z_remove (F : Int32 ⊕ String) : Int32 := match F with
  | .inl _ => nI 0
  | .inr E => if E = b_IO then nI 1 else nI 2
set_option maxRecDepth 100000 in
set_option maxHeartbeats 1000000 in
theorem w_remove {G : bp_X} {α : bt_A} {σ x : bt_X} {D : Nat} {p0 : Int32} (h5 : bt_V α 5 0) (hA : bt_V α 8 5 ∧ bt_at α 5 = (2, 1)) {Q : bt_A → Prop} {F : Int32 ⊕ String} {σ' x' : bt_X} (hF : ∀ E, F = .inr E → E = b_IO ∨ E = b_IS)
    (hM : bq_S G mX5_remove D [.ref (bt_ad α 5 0), .int p0] (bt α σ x) (z_P α Q F σ' x')) : bq_S G mL_remove (D + 1) [.ref (bt_ad α 5 0), .int p0, .ref (bt_ad α 8 5)] (bt α σ x) (z_P α Q (.inl (z_remove F)) σ' (z_x F x')) := by
  refine bq_ofW (by decide +kernel) rfl (Nat.le_of_ble_eq_true rfl) ?_
  refine bq_aload_n (i := 2) dL_remove_0 rfl ?_
  refine bq_iconst (v := (nI 0)) dL_remove_1 (by decide) ?_
  refine bq_aload_n (i := 0) dL_remove_2 rfl ?_
  refine bq_iload_n (i := 1) dL_remove_3 rfl ?_
  refine bt_callV (c := 5) (i := 0) dL_remove_4 rfl ml_L_48 h5 (by decide) hM (Nat.le_refl _) (by decide) (Nat.le_of_ble_eq_true rfl) rfl (fun v w' hp => ?_) (fun E w' hp => ?_)
  · obtain ⟨α', hE, hQ, eo, rfl⟩ := hp
    cases F with
    | inr E => cases eo
    | inl u =>
      cases eo
      have hA' : bt_V α' 8 5 ∧ bt_at α' 5 = (2, 1) := ⟨(hE.1 _ _ hA.1).1, (hE.2.1 5).trans hA.2⟩
      refine bq_eqs (st2 := [.int u, .int (nI 0), .ref (bt_ad α' 8 5)]) (by rw [(hE.1 _ _ hA.1).2]; rfl) ?_
      refine bq_i2l dL_remove_7 ?_
      refine bt_last1 (n := 5) (j := 0) dL_remove_8 hA' rfl (by decide) (by decide) rfl ?_
      refine bq_goto (tgt := 18) dL_remove_9 (by decide) ?_
      refine bq_iconst (v := nI 0) dL_remove_18 (by decide) ?_
      exact bq_iret dL_remove_19 rfl (by first | rfl | decide) ⟨α', hE, hQ, rfl, rfl⟩
  · obtain ⟨α', hE, hQ, eo, rfl⟩ := hp
    cases F with
    | inl u => cases eo
    | inr E' =>
      cases eo
      rcases hF E rfl with rfl | rfl
      · refine bq_catch (name := "java/lang/IndexOutOfBoundsException") [] [(0, 9, 15, 13)] rfl (fun z hz => absurd hz List.not_mem_nil) rfl (by decide) kl_L_19 kt_L_19 (fun q => ?_)
        refine bq_astore_n (i := 3) dL_remove_12 (by decide) ?_
        refine bq_iconst (v := nI 1) dL_remove_13 (by decide) ?_
        exact bq_iret dL_remove_14 rfl (by first | rfl | decide) ⟨α', hE, hQ, by first | rfl | (simp [z_o, z_remove, b_IO, b_IA, b_IS]), rfl⟩
      · refine bq_catch (name := "java/lang/IllegalStateException") [(0, 9, 12, 19)] [] rfl (fun z hz => by
          simp only [List.mem_cons, List.not_mem_nil, or_false] at hz
          subst hz
          · exact Or.inr ⟨by decide, "java/lang/IndexOutOfBoundsException", kl_L_19, by decide +kernel⟩) rfl (by decide) kl_L_13 kt_L_13 (fun q => ?_)
        refine bq_astore_n (i := 3) dL_remove_15 (by decide) ?_
        refine bq_iconst (v := nI 2) dL_remove_16 (by decide) ?_
        exact bq_iret dL_remove_17 rfl (by first | rfl | decide) ⟨α', hE, hQ, by first | rfl | (simp [z_o, z_remove, b_IO, b_IA, b_IS]), rfl⟩
def z_swap (F : Int32 ⊕ String) : Int32 := match F with
  | .inl _ => nI 0
  | .inr E => if E = b_IO then nI 1 else nI 2
set_option maxRecDepth 100000 in
set_option maxHeartbeats 1000000 in
theorem w_swap {G : bp_X} {α : bt_A} {σ x : bt_X} {D : Nat} {p0 p1 : Int32} (h5 : bt_V α 5 0) (hA : bt_V α 8 5 ∧ bt_at α 5 = (2, 1)) {Q : bt_A → Prop} {F : Int32 ⊕ String} {σ' x' : bt_X} (hF : ∀ E, F = .inr E → E = b_IO ∨ E = b_IS)
    (hM : bq_S G mX5_swap D [.ref (bt_ad α 5 0), .int p0, .int p1] (bt α σ x) (z_P α Q F σ' x')) : bq_S G mL_swap (D + 1) [.ref (bt_ad α 5 0), .int p0, .int p1, .ref (bt_ad α 8 5)] (bt α σ x) (z_P α Q (.inl (z_swap F)) σ' (z_x F x')) := by
  refine bq_ofW (by decide +kernel) rfl (Nat.le_of_ble_eq_true rfl) ?_
  refine bq_aload_n (i := 3) dL_swap_0 rfl ?_
  refine bq_iconst (v := (nI 0)) dL_swap_1 (by decide) ?_
  refine bq_aload_n (i := 0) dL_swap_2 rfl ?_
  refine bq_iload_n (i := 1) dL_swap_3 rfl ?_
  refine bq_iload_n (i := 2) dL_swap_4 rfl ?_
  refine bt_callV (c := 5) (i := 0) dL_swap_5 rfl ml_L_51 h5 (by decide) hM (Nat.le_refl _) (by decide) (Nat.le_of_ble_eq_true rfl) rfl (fun v w' hp => ?_) (fun E w' hp => ?_)
  · obtain ⟨α', hE, hQ, eo, rfl⟩ := hp
    cases F with
    | inr E => cases eo
    | inl u =>
      cases eo
      have hA' : bt_V α' 8 5 ∧ bt_at α' 5 = (2, 1) := ⟨(hE.1 _ _ hA.1).1, (hE.2.1 5).trans hA.2⟩
      refine bq_eqs (st2 := [.int u, .int (nI 0), .ref (bt_ad α' 8 5)]) (by rw [(hE.1 _ _ hA.1).2]; rfl) ?_
      refine bq_i2l dL_swap_8 ?_
      refine bt_last1 (n := 5) (j := 0) dL_swap_9 hA' rfl (by decide) (by decide) rfl ?_
      refine bq_goto (tgt := 21) dL_swap_10 (by decide) ?_
      refine bq_iconst (v := nI 0) dL_swap_21 (by decide) ?_
      exact bq_iret dL_swap_22 rfl (by first | rfl | decide) ⟨α', hE, hQ, rfl, rfl⟩
  · obtain ⟨α', hE, hQ, eo, rfl⟩ := hp
    cases F with
    | inl u => cases eo
    | inr E' =>
      cases eo
      rcases hF E rfl with rfl | rfl
      · refine bq_catch (name := "java/lang/IndexOutOfBoundsException") [] [(0, 10, 17, 13)] rfl (fun z hz => absurd hz List.not_mem_nil) rfl (by decide) kl_L_19 kt_L_19 (fun q => ?_)
        refine bq_astore (i := 4) dL_swap_13 (by decide) ?_
        refine bq_iconst (v := nI 1) dL_swap_15 (by decide) ?_
        exact bq_iret dL_swap_16 rfl (by first | rfl | decide) ⟨α', hE, hQ, by first | rfl | (simp [z_o, z_swap, b_IO, b_IA, b_IS]), rfl⟩
      · refine bq_catch (name := "java/lang/IllegalStateException") [(0, 10, 13, 19)] [] rfl (fun z hz => by
          simp only [List.mem_cons, List.not_mem_nil, or_false] at hz
          subst hz
          · exact Or.inr ⟨by decide, "java/lang/IndexOutOfBoundsException", kl_L_19, by decide +kernel⟩) rfl (by decide) kl_L_13 kt_L_13 (fun q => ?_)
        refine bq_astore (i := 4) dL_swap_17 (by decide) ?_
        refine bq_iconst (v := nI 2) dL_swap_19 (by decide) ?_
        exact bq_iret dL_swap_20 rfl (by first | rfl | decide) ⟨α', hE, hQ, by first | rfl | (simp [z_o, z_swap, b_IO, b_IA, b_IS]), rfl⟩
def z_placed (F : Int32 ⊕ String) : Int32 := match F with
  | .inl _ => nI 0
  | .inr E => nI 1
set_option maxRecDepth 100000 in
set_option maxHeartbeats 1000000 in
theorem w_placed {G : bp_X} {α : bt_A} {σ x : bt_X} {D : Nat} {p0 : Int32} (h5 : bt_V α 5 0) (hA : bt_V α 8 5 ∧ bt_at α 5 = (2, 1)) {Q : bt_A → Prop} {F : Int32 ⊕ String} {σ' x' : bt_X} (hF : ∀ E, F = .inr E → E = b_IO)
    (hM : bq_S G mX5_placed D [.ref (bt_ad α 5 0), .int p0] (bt α σ x) (z_P α Q F σ' x')) : bq_S G mL_placed (D + 1) [.ref (bt_ad α 5 0), .int p0, .ref (bt_ad α 8 5)] (bt α σ x) (z_P α Q (.inl (z_placed F)) σ' (z_x F x')) := by
  refine bq_ofW (by decide +kernel) rfl (Nat.le_of_ble_eq_true rfl) ?_
  refine bq_aload_n (i := 2) dL_placed_0 rfl ?_
  refine bq_iconst (v := (nI 0)) dL_placed_1 (by decide) ?_
  refine bq_aload_n (i := 0) dL_placed_2 rfl ?_
  refine bq_iload_n (i := 1) dL_placed_3 rfl ?_
  refine bt_callV (c := 5) (i := 0) dL_placed_4 rfl ml_L_54 h5 (by decide) hM (Nat.le_refl _) (by decide) (Nat.le_of_ble_eq_true rfl) rfl (fun v w' hp => ?_) (fun E w' hp => ?_)
  · obtain ⟨α', hE, hQ, eo, rfl⟩ := hp
    cases F with
    | inr E => cases eo
    | inl u =>
      cases eo
      have hA' : bt_V α' 8 5 ∧ bt_at α' 5 = (2, 1) := ⟨(hE.1 _ _ hA.1).1, (hE.2.1 5).trans hA.2⟩
      refine bq_eqs (st2 := [.int u, .int (nI 0), .ref (bt_ad α' 8 5)]) (by rw [(hE.1 _ _ hA.1).2]; rfl) ?_
      refine bq_i2l dL_placed_7 ?_
      refine bt_last1 (n := 5) (j := 0) dL_placed_8 hA' rfl (by decide) (by decide) rfl ?_
      refine bq_goto (tgt := 15) dL_placed_9 (by decide) ?_
      refine bq_iconst (v := nI 0) dL_placed_15 (by decide) ?_
      exact bq_iret dL_placed_16 rfl (by first | rfl | decide) ⟨α', hE, hQ, rfl, rfl⟩
  · obtain ⟨α', hE, hQ, eo, rfl⟩ := hp
    cases F with
    | inl u => cases eo
    | inr E' =>
      cases eo
      rcases hF E rfl with rfl
      · refine bq_catch (name := "java/lang/IndexOutOfBoundsException") [] [] rfl (fun z hz => absurd hz List.not_mem_nil) rfl (by decide) kl_L_19 kt_L_19 (fun q => ?_)
        refine bq_astore_n (i := 3) dL_placed_12 (by decide) ?_
        refine bq_iconst (v := nI 1) dL_placed_13 (by decide) ?_
        exact bq_iret dL_placed_14 rfl (by first | rfl | decide) ⟨α', hE, hQ, by first | rfl | (simp [z_o, z_placed, b_IO, b_IA, b_IS]), rfl⟩
def z_placedAt (F : Int32 ⊕ String) : Int32 := match F with
  | .inl _ => nI 0
  | .inr E => nI 1
set_option maxRecDepth 100000 in
set_option maxHeartbeats 1000000 in
theorem w_placedAt {G : bp_X} {α : bt_A} {σ x : bt_X} {D : Nat} {p0 p1 : Int32} (h5 : bt_V α 5 0) (hA : bt_V α 8 5 ∧ bt_at α 5 = (2, 1)) {Q : bt_A → Prop} {F : Int32 ⊕ String} {σ' x' : bt_X} (hF : ∀ E, F = .inr E → E = b_IO)
    (hM : bq_S G mX5_placedAt D [.ref (bt_ad α 5 0), .int p0, .int p1] (bt α σ x) (z_P α Q F σ' x')) : bq_S G mL_placedAt (D + 1) [.ref (bt_ad α 5 0), .int p0, .int p1, .ref (bt_ad α 8 5)] (bt α σ x) (z_P α Q (.inl (z_placedAt F)) σ' (z_x F x')) := by
  refine bq_ofW (by decide +kernel) rfl (Nat.le_of_ble_eq_true rfl) ?_
  refine bq_aload_n (i := 3) dL_placedAt_0 rfl ?_
  refine bq_iconst (v := (nI 0)) dL_placedAt_1 (by decide) ?_
  refine bq_aload_n (i := 0) dL_placedAt_2 rfl ?_
  refine bq_iload_n (i := 1) dL_placedAt_3 rfl ?_
  refine bq_iload_n (i := 2) dL_placedAt_4 rfl ?_
  refine bt_callV (c := 5) (i := 0) dL_placedAt_5 rfl ml_L_57 h5 (by decide) hM (Nat.le_refl _) (by decide) (Nat.le_of_ble_eq_true rfl) rfl (fun v w' hp => ?_) (fun E w' hp => ?_)
  · obtain ⟨α', hE, hQ, eo, rfl⟩ := hp
    cases F with
    | inr E => cases eo
    | inl u =>
      cases eo
      have hA' : bt_V α' 8 5 ∧ bt_at α' 5 = (2, 1) := ⟨(hE.1 _ _ hA.1).1, (hE.2.1 5).trans hA.2⟩
      refine bq_eqs (st2 := [.int u, .int (nI 0), .ref (bt_ad α' 8 5)]) (by rw [(hE.1 _ _ hA.1).2]; rfl) ?_
      refine bq_i2l dL_placedAt_8 ?_
      refine bt_last1 (n := 5) (j := 0) dL_placedAt_9 hA' rfl (by decide) (by decide) rfl ?_
      refine bq_goto (tgt := 17) dL_placedAt_10 (by decide) ?_
      refine bq_iconst (v := nI 0) dL_placedAt_17 (by decide) ?_
      exact bq_iret dL_placedAt_18 rfl (by first | rfl | decide) ⟨α', hE, hQ, rfl, rfl⟩
  · obtain ⟨α', hE, hQ, eo, rfl⟩ := hp
    cases F with
    | inl u => cases eo
    | inr E' =>
      cases eo
      rcases hF E rfl with rfl
      · refine bq_catch (name := "java/lang/IndexOutOfBoundsException") [] [] rfl (fun z hz => absurd hz List.not_mem_nil) rfl (by decide) kl_L_19 kt_L_19 (fun q => ?_)
        refine bq_astore (i := 4) dL_placedAt_13 (by decide) ?_
        refine bq_iconst (v := nI 1) dL_placedAt_15 (by decide) ?_
        exact bq_iret dL_placedAt_16 rfl (by first | rfl | decide) ⟨α', hE, hQ, by first | rfl | (simp [z_o, z_placedAt, b_IO, b_IA, b_IS]), rfl⟩
def z_startOf (F : Int32 ⊕ String) : Int32 := match F with
  | .inl _ => nI 0
  | .inr E => if E = b_IO then nI 1 else nI 2
set_option maxRecDepth 100000 in
set_option maxHeartbeats 1000000 in
theorem w_startOf {G : bp_X} {α : bt_A} {σ x : bt_X} {D : Nat} {p0 p1 : Int32} (h5 : bt_V α 5 0) (hA : bt_V α 8 5 ∧ bt_at α 5 = (2, 1)) {Q : bt_A → Prop} {F : Int32 ⊕ String} {σ' x' : bt_X} (hF : ∀ E, F = .inr E → E = b_IO ∨ E = b_IS)
    (hM : bq_S G mX5_startOf D [.ref (bt_ad α 5 0), .int p0, .int p1] (bt α σ x) (z_P α Q F σ' x')) : bq_S G mL_startOf (D + 1) [.ref (bt_ad α 5 0), .int p0, .int p1, .ref (bt_ad α 8 5)] (bt α σ x) (z_P α Q (.inl (z_startOf F)) σ' (z_x F x')) := by
  refine bq_ofW (by decide +kernel) rfl (Nat.le_of_ble_eq_true rfl) ?_
  refine bq_aload_n (i := 3) dL_startOf_0 rfl ?_
  refine bq_iconst (v := (nI 0)) dL_startOf_1 (by decide) ?_
  refine bq_aload_n (i := 0) dL_startOf_2 rfl ?_
  refine bq_iload_n (i := 1) dL_startOf_3 rfl ?_
  refine bq_iload_n (i := 2) dL_startOf_4 rfl ?_
  refine bt_callV (c := 5) (i := 0) dL_startOf_5 rfl ml_L_60 h5 (by decide) hM (Nat.le_refl _) (by decide) (Nat.le_of_ble_eq_true rfl) rfl (fun v w' hp => ?_) (fun E w' hp => ?_)
  · obtain ⟨α', hE, hQ, eo, rfl⟩ := hp
    cases F with
    | inr E => cases eo
    | inl u =>
      cases eo
      have hA' : bt_V α' 8 5 ∧ bt_at α' 5 = (2, 1) := ⟨(hE.1 _ _ hA.1).1, (hE.2.1 5).trans hA.2⟩
      refine bq_eqs (st2 := [.int u, .int (nI 0), .ref (bt_ad α' 8 5)]) (by rw [(hE.1 _ _ hA.1).2]; rfl) ?_
      refine bq_i2l dL_startOf_8 ?_
      refine bt_last1 (n := 5) (j := 0) dL_startOf_9 hA' rfl (by decide) (by decide) rfl ?_
      refine bq_goto (tgt := 21) dL_startOf_10 (by decide) ?_
      refine bq_iconst (v := nI 0) dL_startOf_21 (by decide) ?_
      exact bq_iret dL_startOf_22 rfl (by first | rfl | decide) ⟨α', hE, hQ, rfl, rfl⟩
  · obtain ⟨α', hE, hQ, eo, rfl⟩ := hp
    cases F with
    | inl u => cases eo
    | inr E' =>
      cases eo
      rcases hF E rfl with rfl | rfl
      · refine bq_catch (name := "java/lang/IndexOutOfBoundsException") [] [(0, 10, 17, 13)] rfl (fun z hz => absurd hz List.not_mem_nil) rfl (by decide) kl_L_19 kt_L_19 (fun q => ?_)
        refine bq_astore (i := 4) dL_startOf_13 (by decide) ?_
        refine bq_iconst (v := nI 1) dL_startOf_15 (by decide) ?_
        exact bq_iret dL_startOf_16 rfl (by first | rfl | decide) ⟨α', hE, hQ, by first | rfl | (simp [z_o, z_startOf, b_IO, b_IA, b_IS]), rfl⟩
      · refine bq_catch (name := "java/lang/IllegalStateException") [(0, 10, 13, 19)] [] rfl (fun z hz => by
          simp only [List.mem_cons, List.not_mem_nil, or_false] at hz
          subst hz
          · exact Or.inr ⟨by decide, "java/lang/IndexOutOfBoundsException", kl_L_19, by decide +kernel⟩) rfl (by decide) kl_L_13 kt_L_13 (fun q => ?_)
        refine bq_astore (i := 4) dL_startOf_17 (by decide) ?_
        refine bq_iconst (v := nI 2) dL_startOf_19 (by decide) ?_
        exact bq_iret dL_startOf_20 rfl (by first | rfl | decide) ⟨α', hE, hQ, by first | rfl | (simp [z_o, z_startOf, b_IO, b_IA, b_IS]), rfl⟩
def z_startByRounds (F : Int32 ⊕ String) : Int32 := match F with
  | .inl _ => nI 0
  | .inr E => if E = b_IO then nI 1 else nI 2
set_option maxRecDepth 100000 in
set_option maxHeartbeats 1000000 in
theorem w_startByRounds {G : bp_X} {α : bt_A} {σ x : bt_X} {D : Nat} {p0 p1 : Int32} (h5 : bt_V α 5 0) (hA : bt_V α 8 5 ∧ bt_at α 5 = (2, 1)) {Q : bt_A → Prop} {F : Int32 ⊕ String} {σ' x' : bt_X} (hF : ∀ E, F = .inr E → E = b_IO ∨ E = b_IS)
    (hM : bq_S G mX5_startByRounds D [.ref (bt_ad α 5 0), .int p0, .int p1] (bt α σ x) (z_P α Q F σ' x')) : bq_S G mL_startByRounds (D + 1) [.ref (bt_ad α 5 0), .int p0, .int p1, .ref (bt_ad α 8 5)] (bt α σ x) (z_P α Q (.inl (z_startByRounds F)) σ' (z_x F x')) := by
  refine bq_ofW (by decide +kernel) rfl (Nat.le_of_ble_eq_true rfl) ?_
  refine bq_aload_n (i := 3) dL_startByRounds_0 rfl ?_
  refine bq_iconst (v := (nI 0)) dL_startByRounds_1 (by decide) ?_
  refine bq_aload_n (i := 0) dL_startByRounds_2 rfl ?_
  refine bq_iload_n (i := 1) dL_startByRounds_3 rfl ?_
  refine bq_iload_n (i := 2) dL_startByRounds_4 rfl ?_
  refine bt_callV (c := 5) (i := 0) dL_startByRounds_5 rfl ml_L_63 h5 (by decide) hM (Nat.le_refl _) (by decide) (Nat.le_of_ble_eq_true rfl) rfl (fun v w' hp => ?_) (fun E w' hp => ?_)
  · obtain ⟨α', hE, hQ, eo, rfl⟩ := hp
    cases F with
    | inr E => cases eo
    | inl u =>
      cases eo
      have hA' : bt_V α' 8 5 ∧ bt_at α' 5 = (2, 1) := ⟨(hE.1 _ _ hA.1).1, (hE.2.1 5).trans hA.2⟩
      refine bq_eqs (st2 := [.int u, .int (nI 0), .ref (bt_ad α' 8 5)]) (by rw [(hE.1 _ _ hA.1).2]; rfl) ?_
      refine bq_i2l dL_startByRounds_8 ?_
      refine bt_last1 (n := 5) (j := 0) dL_startByRounds_9 hA' rfl (by decide) (by decide) rfl ?_
      refine bq_goto (tgt := 21) dL_startByRounds_10 (by decide) ?_
      refine bq_iconst (v := nI 0) dL_startByRounds_21 (by decide) ?_
      exact bq_iret dL_startByRounds_22 rfl (by first | rfl | decide) ⟨α', hE, hQ, rfl, rfl⟩
  · obtain ⟨α', hE, hQ, eo, rfl⟩ := hp
    cases F with
    | inl u => cases eo
    | inr E' =>
      cases eo
      rcases hF E rfl with rfl | rfl
      · refine bq_catch (name := "java/lang/IndexOutOfBoundsException") [] [(0, 10, 17, 13)] rfl (fun z hz => absurd hz List.not_mem_nil) rfl (by decide) kl_L_19 kt_L_19 (fun q => ?_)
        refine bq_astore (i := 4) dL_startByRounds_13 (by decide) ?_
        refine bq_iconst (v := nI 1) dL_startByRounds_15 (by decide) ?_
        exact bq_iret dL_startByRounds_16 rfl (by first | rfl | decide) ⟨α', hE, hQ, by first | rfl | (simp [z_o, z_startByRounds, b_IO, b_IA, b_IS]), rfl⟩
      · refine bq_catch (name := "java/lang/IllegalStateException") [(0, 10, 13, 19)] [] rfl (fun z hz => by
          simp only [List.mem_cons, List.not_mem_nil, or_false] at hz
          subst hz
          · exact Or.inr ⟨by decide, "java/lang/IndexOutOfBoundsException", kl_L_19, by decide +kernel⟩) rfl (by decide) kl_L_13 kt_L_13 (fun q => ?_)
        refine bq_astore (i := 4) dL_startByRounds_17 (by decide) ?_
        refine bq_iconst (v := nI 2) dL_startByRounds_19 (by decide) ?_
        exact bq_iret dL_startByRounds_20 rfl (by first | rfl | decide) ⟨α', hE, hQ, by first | rfl | (simp [z_o, z_startByRounds, b_IO, b_IA, b_IS]), rfl⟩
def z_lateness (F : Int32 ⊕ String) : Int32 := match F with
  | .inl _ => nI 0
  | .inr E => if E = b_IO then nI 1 else nI 2
set_option maxRecDepth 100000 in
set_option maxHeartbeats 1000000 in
theorem w_lateness {G : bp_X} {α : bt_A} {σ x : bt_X} {D : Nat} {p0 : Int32} (h5 : bt_V α 5 0) (hA : bt_V α 8 5 ∧ bt_at α 5 = (2, 1)) {Q : bt_A → Prop} {F : Int32 ⊕ String} {σ' x' : bt_X} (hF : ∀ E, F = .inr E → E = b_IO ∨ E = b_IS)
    (hM : bq_S G mX5_lateness D [.ref (bt_ad α 5 0), .int p0] (bt α σ x) (z_P α Q F σ' x')) : bq_S G mL_lateness (D + 1) [.ref (bt_ad α 5 0), .int p0, .ref (bt_ad α 8 5)] (bt α σ x) (z_P α Q (.inl (z_lateness F)) σ' (z_x F x')) := by
  refine bq_ofW (by decide +kernel) rfl (Nat.le_of_ble_eq_true rfl) ?_
  refine bq_aload_n (i := 2) dL_lateness_0 rfl ?_
  refine bq_iconst (v := (nI 0)) dL_lateness_1 (by decide) ?_
  refine bq_aload_n (i := 0) dL_lateness_2 rfl ?_
  refine bq_iload_n (i := 1) dL_lateness_3 rfl ?_
  refine bt_callV (c := 5) (i := 0) dL_lateness_4 rfl ml_L_66 h5 (by decide) hM (Nat.le_refl _) (by decide) (Nat.le_of_ble_eq_true rfl) rfl (fun v w' hp => ?_) (fun E w' hp => ?_)
  · obtain ⟨α', hE, hQ, eo, rfl⟩ := hp
    cases F with
    | inr E => cases eo
    | inl u =>
      cases eo
      have hA' : bt_V α' 8 5 ∧ bt_at α' 5 = (2, 1) := ⟨(hE.1 _ _ hA.1).1, (hE.2.1 5).trans hA.2⟩
      refine bq_eqs (st2 := [.int u, .int (nI 0), .ref (bt_ad α' 8 5)]) (by rw [(hE.1 _ _ hA.1).2]; rfl) ?_
      refine bq_i2l dL_lateness_7 ?_
      refine bt_last1 (n := 5) (j := 0) dL_lateness_8 hA' rfl (by decide) (by decide) rfl ?_
      refine bq_goto (tgt := 18) dL_lateness_9 (by decide) ?_
      refine bq_iconst (v := nI 0) dL_lateness_18 (by decide) ?_
      exact bq_iret dL_lateness_19 rfl (by first | rfl | decide) ⟨α', hE, hQ, rfl, rfl⟩
  · obtain ⟨α', hE, hQ, eo, rfl⟩ := hp
    cases F with
    | inl u => cases eo
    | inr E' =>
      cases eo
      rcases hF E rfl with rfl | rfl
      · refine bq_catch (name := "java/lang/IndexOutOfBoundsException") [] [(0, 9, 15, 13)] rfl (fun z hz => absurd hz List.not_mem_nil) rfl (by decide) kl_L_19 kt_L_19 (fun q => ?_)
        refine bq_astore_n (i := 3) dL_lateness_12 (by decide) ?_
        refine bq_iconst (v := nI 1) dL_lateness_13 (by decide) ?_
        exact bq_iret dL_lateness_14 rfl (by first | rfl | decide) ⟨α', hE, hQ, by first | rfl | (simp [z_o, z_lateness, b_IO, b_IA, b_IS]), rfl⟩
      · refine bq_catch (name := "java/lang/IllegalStateException") [(0, 9, 12, 19)] [] rfl (fun z hz => by
          simp only [List.mem_cons, List.not_mem_nil, or_false] at hz
          subst hz
          · exact Or.inr ⟨by decide, "java/lang/IndexOutOfBoundsException", kl_L_19, by decide +kernel⟩) rfl (by decide) kl_L_13 kt_L_13 (fun q => ?_)
        refine bq_astore_n (i := 3) dL_lateness_15 (by decide) ?_
        refine bq_iconst (v := nI 2) dL_lateness_16 (by decide) ?_
        exact bq_iret dL_lateness_17 rfl (by first | rfl | decide) ⟨α', hE, hQ, by first | rfl | (simp [z_o, z_lateness, b_IO, b_IA, b_IS]), rfl⟩
def z_slack (F : Int32 ⊕ String) : Int32 := match F with
  | .inl _ => nI 0
  | .inr E => if E = b_IO then nI 1 else nI 2
set_option maxRecDepth 100000 in
set_option maxHeartbeats 1000000 in
theorem w_slack {G : bp_X} {α : bt_A} {σ x : bt_X} {D : Nat} {p0 p1 : Int32} (h5 : bt_V α 5 0) (hA : bt_V α 8 5 ∧ bt_at α 5 = (2, 1)) {Q : bt_A → Prop} {F : Int32 ⊕ String} {σ' x' : bt_X} (hF : ∀ E, F = .inr E → E = b_IO ∨ E = b_IS)
    (hM : bq_S G mX5_slack D [.ref (bt_ad α 5 0), .int p0, .int p1] (bt α σ x) (z_P α Q F σ' x')) : bq_S G mL_slack (D + 1) [.ref (bt_ad α 5 0), .int p0, .int p1, .ref (bt_ad α 8 5)] (bt α σ x) (z_P α Q (.inl (z_slack F)) σ' (z_x F x')) := by
  refine bq_ofW (by decide +kernel) rfl (Nat.le_of_ble_eq_true rfl) ?_
  refine bq_aload_n (i := 3) dL_slack_0 rfl ?_
  refine bq_iconst (v := (nI 0)) dL_slack_1 (by decide) ?_
  refine bq_aload_n (i := 0) dL_slack_2 rfl ?_
  refine bq_iload_n (i := 1) dL_slack_3 rfl ?_
  refine bq_iload_n (i := 2) dL_slack_4 rfl ?_
  refine bt_callV (c := 5) (i := 0) dL_slack_5 rfl ml_L_69 h5 (by decide) hM (Nat.le_refl _) (by decide) (Nat.le_of_ble_eq_true rfl) rfl (fun v w' hp => ?_) (fun E w' hp => ?_)
  · obtain ⟨α', hE, hQ, eo, rfl⟩ := hp
    cases F with
    | inr E => cases eo
    | inl u =>
      cases eo
      have hA' : bt_V α' 8 5 ∧ bt_at α' 5 = (2, 1) := ⟨(hE.1 _ _ hA.1).1, (hE.2.1 5).trans hA.2⟩
      refine bq_eqs (st2 := [.int u, .int (nI 0), .ref (bt_ad α' 8 5)]) (by rw [(hE.1 _ _ hA.1).2]; rfl) ?_
      refine bq_i2l dL_slack_8 ?_
      refine bt_last1 (n := 5) (j := 0) dL_slack_9 hA' rfl (by decide) (by decide) rfl ?_
      refine bq_goto (tgt := 21) dL_slack_10 (by decide) ?_
      refine bq_iconst (v := nI 0) dL_slack_21 (by decide) ?_
      exact bq_iret dL_slack_22 rfl (by first | rfl | decide) ⟨α', hE, hQ, rfl, rfl⟩
  · obtain ⟨α', hE, hQ, eo, rfl⟩ := hp
    cases F with
    | inl u => cases eo
    | inr E' =>
      cases eo
      rcases hF E rfl with rfl | rfl
      · refine bq_catch (name := "java/lang/IndexOutOfBoundsException") [] [(0, 10, 17, 13)] rfl (fun z hz => absurd hz List.not_mem_nil) rfl (by decide) kl_L_19 kt_L_19 (fun q => ?_)
        refine bq_astore (i := 4) dL_slack_13 (by decide) ?_
        refine bq_iconst (v := nI 1) dL_slack_15 (by decide) ?_
        exact bq_iret dL_slack_16 rfl (by first | rfl | decide) ⟨α', hE, hQ, by first | rfl | (simp [z_o, z_slack, b_IO, b_IA, b_IS]), rfl⟩
      · refine bq_catch (name := "java/lang/IllegalStateException") [(0, 10, 13, 19)] [] rfl (fun z hz => by
          simp only [List.mem_cons, List.not_mem_nil, or_false] at hz
          subst hz
          · exact Or.inr ⟨by decide, "java/lang/IndexOutOfBoundsException", kl_L_19, by decide +kernel⟩) rfl (by decide) kl_L_13 kt_L_13 (fun q => ?_)
        refine bq_astore (i := 4) dL_slack_17 (by decide) ?_
        refine bq_iconst (v := nI 2) dL_slack_19 (by decide) ?_
        exact bq_iret dL_slack_20 rfl (by first | rfl | decide) ⟨α', hE, hQ, by first | rfl | (simp [z_o, z_slack, b_IO, b_IA, b_IS]), rfl⟩
def z_criticalAt (F : Int32 ⊕ String) : Int32 := match F with
  | .inl _ => nI 0
  | .inr E => nI 1
set_option maxRecDepth 100000 in
set_option maxHeartbeats 1000000 in
theorem w_criticalAt {G : bp_X} {α : bt_A} {σ x : bt_X} {D : Nat} {p0 : Int32} (h5 : bt_V α 5 0) (hA : bt_V α 8 5 ∧ bt_at α 5 = (2, 1)) {Q : bt_A → Prop} {F : Int32 ⊕ String} {σ' x' : bt_X} (hF : ∀ E, F = .inr E → E = b_IO)
    (hM : bq_S G mX5_criticalAt D [.ref (bt_ad α 5 0), .int p0] (bt α σ x) (z_P α Q F σ' x')) : bq_S G mL_criticalAt (D + 1) [.ref (bt_ad α 5 0), .int p0, .ref (bt_ad α 8 5)] (bt α σ x) (z_P α Q (.inl (z_criticalAt F)) σ' (z_x F x')) := by
  refine bq_ofW (by decide +kernel) rfl (Nat.le_of_ble_eq_true rfl) ?_
  refine bq_aload_n (i := 2) dL_criticalAt_0 rfl ?_
  refine bq_iconst (v := (nI 0)) dL_criticalAt_1 (by decide) ?_
  refine bq_aload_n (i := 0) dL_criticalAt_2 rfl ?_
  refine bq_iload_n (i := 1) dL_criticalAt_3 rfl ?_
  refine bt_callV (c := 5) (i := 0) dL_criticalAt_4 rfl ml_L_72 h5 (by decide) hM (Nat.le_refl _) (by decide) (Nat.le_of_ble_eq_true rfl) rfl (fun v w' hp => ?_) (fun E w' hp => ?_)
  · obtain ⟨α', hE, hQ, eo, rfl⟩ := hp
    cases F with
    | inr E => cases eo
    | inl u =>
      cases eo
      have hA' : bt_V α' 8 5 ∧ bt_at α' 5 = (2, 1) := ⟨(hE.1 _ _ hA.1).1, (hE.2.1 5).trans hA.2⟩
      refine bq_eqs (st2 := [.int u, .int (nI 0), .ref (bt_ad α' 8 5)]) (by rw [(hE.1 _ _ hA.1).2]; rfl) ?_
      refine bq_i2l dL_criticalAt_7 ?_
      refine bt_last1 (n := 5) (j := 0) dL_criticalAt_8 hA' rfl (by decide) (by decide) rfl ?_
      refine bq_goto (tgt := 15) dL_criticalAt_9 (by decide) ?_
      refine bq_iconst (v := nI 0) dL_criticalAt_15 (by decide) ?_
      exact bq_iret dL_criticalAt_16 rfl (by first | rfl | decide) ⟨α', hE, hQ, rfl, rfl⟩
  · obtain ⟨α', hE, hQ, eo, rfl⟩ := hp
    cases F with
    | inl u => cases eo
    | inr E' =>
      cases eo
      rcases hF E rfl with rfl
      · refine bq_catch (name := "java/lang/IndexOutOfBoundsException") [] [] rfl (fun z hz => absurd hz List.not_mem_nil) rfl (by decide) kl_L_19 kt_L_19 (fun q => ?_)
        refine bq_astore_n (i := 3) dL_criticalAt_12 (by decide) ?_
        refine bq_iconst (v := nI 1) dL_criticalAt_13 (by decide) ?_
        exact bq_iret dL_criticalAt_14 rfl (by first | rfl | decide) ⟨α', hE, hQ, by first | rfl | (simp [z_o, z_criticalAt, b_IO, b_IA, b_IS]), rfl⟩
def z_setups (F : Int32 ⊕ String) : Int32 := match F with
  | .inl _ => nI 0
  | .inr E => nI 1
set_option maxRecDepth 100000 in
set_option maxHeartbeats 1000000 in
theorem w_setups {G : bp_X} {α : bt_A} {σ x : bt_X} {D : Nat} {p0 : Int32} (h5 : bt_V α 5 0) (hA : bt_V α 8 5 ∧ bt_at α 5 = (2, 1)) {Q : bt_A → Prop} {F : Int32 ⊕ String} {σ' x' : bt_X} (hF : ∀ E, F = .inr E → E = b_IO)
    (hM : bq_S G mX5_setups D [.ref (bt_ad α 5 0), .int p0] (bt α σ x) (z_P α Q F σ' x')) : bq_S G mL_setups (D + 1) [.ref (bt_ad α 5 0), .int p0, .ref (bt_ad α 8 5)] (bt α σ x) (z_P α Q (.inl (z_setups F)) σ' (z_x F x')) := by
  refine bq_ofW (by decide +kernel) rfl (Nat.le_of_ble_eq_true rfl) ?_
  refine bq_aload_n (i := 2) dL_setups_0 rfl ?_
  refine bq_iconst (v := (nI 0)) dL_setups_1 (by decide) ?_
  refine bq_aload_n (i := 0) dL_setups_2 rfl ?_
  refine bq_iload_n (i := 1) dL_setups_3 rfl ?_
  refine bt_callV (c := 5) (i := 0) dL_setups_4 rfl ml_L_75 h5 (by decide) hM (Nat.le_refl _) (by decide) (Nat.le_of_ble_eq_true rfl) rfl (fun v w' hp => ?_) (fun E w' hp => ?_)
  · obtain ⟨α', hE, hQ, eo, rfl⟩ := hp
    cases F with
    | inr E => cases eo
    | inl u =>
      cases eo
      have hA' : bt_V α' 8 5 ∧ bt_at α' 5 = (2, 1) := ⟨(hE.1 _ _ hA.1).1, (hE.2.1 5).trans hA.2⟩
      refine bq_eqs (st2 := [.int u, .int (nI 0), .ref (bt_ad α' 8 5)]) (by rw [(hE.1 _ _ hA.1).2]; rfl) ?_
      refine bq_i2l dL_setups_7 ?_
      refine bt_last1 (n := 5) (j := 0) dL_setups_8 hA' rfl (by decide) (by decide) rfl ?_
      refine bq_goto (tgt := 15) dL_setups_9 (by decide) ?_
      refine bq_iconst (v := nI 0) dL_setups_15 (by decide) ?_
      exact bq_iret dL_setups_16 rfl (by first | rfl | decide) ⟨α', hE, hQ, rfl, rfl⟩
  · obtain ⟨α', hE, hQ, eo, rfl⟩ := hp
    cases F with
    | inl u => cases eo
    | inr E' =>
      cases eo
      rcases hF E rfl with rfl
      · refine bq_catch (name := "java/lang/IndexOutOfBoundsException") [] [] rfl (fun z hz => absurd hz List.not_mem_nil) rfl (by decide) kl_L_19 kt_L_19 (fun q => ?_)
        refine bq_astore_n (i := 3) dL_setups_12 (by decide) ?_
        refine bq_iconst (v := nI 1) dL_setups_13 (by decide) ?_
        exact bq_iret dL_setups_14 rfl (by first | rfl | decide) ⟨α', hE, hQ, by first | rfl | (simp [z_o, z_setups, b_IO, b_IA, b_IS]), rfl⟩
def z_loads (F : Int32 ⊕ String) : Int32 := match F with
  | .inl _ => nI 0
  | .inr E => nI 1
set_option maxRecDepth 100000 in
set_option maxHeartbeats 1000000 in
theorem w_loads {G : bp_X} {α : bt_A} {σ x : bt_X} {D : Nat} {p0 : Int32} (h5 : bt_V α 5 0) (hA : bt_V α 8 5 ∧ bt_at α 5 = (2, 1)) {Q : bt_A → Prop} {F : Int32 ⊕ String} {σ' x' : bt_X} (hF : ∀ E, F = .inr E → E = b_IO)
    (hM : bq_S G mX5_loads D [.ref (bt_ad α 5 0), .int p0] (bt α σ x) (z_P α Q F σ' x')) : bq_S G mL_loads (D + 1) [.ref (bt_ad α 5 0), .int p0, .ref (bt_ad α 8 5)] (bt α σ x) (z_P α Q (.inl (z_loads F)) σ' (z_x F x')) := by
  refine bq_ofW (by decide +kernel) rfl (Nat.le_of_ble_eq_true rfl) ?_
  refine bq_aload_n (i := 2) dL_loads_0 rfl ?_
  refine bq_iconst (v := (nI 0)) dL_loads_1 (by decide) ?_
  refine bq_aload_n (i := 0) dL_loads_2 rfl ?_
  refine bq_iload_n (i := 1) dL_loads_3 rfl ?_
  refine bt_callV (c := 5) (i := 0) dL_loads_4 rfl ml_L_78 h5 (by decide) hM (Nat.le_refl _) (by decide) (Nat.le_of_ble_eq_true rfl) rfl (fun v w' hp => ?_) (fun E w' hp => ?_)
  · obtain ⟨α', hE, hQ, eo, rfl⟩ := hp
    cases F with
    | inr E => cases eo
    | inl u =>
      cases eo
      have hA' : bt_V α' 8 5 ∧ bt_at α' 5 = (2, 1) := ⟨(hE.1 _ _ hA.1).1, (hE.2.1 5).trans hA.2⟩
      refine bq_eqs (st2 := [.int u, .int (nI 0), .ref (bt_ad α' 8 5)]) (by rw [(hE.1 _ _ hA.1).2]; rfl) ?_
      refine bq_i2l dL_loads_7 ?_
      refine bt_last1 (n := 5) (j := 0) dL_loads_8 hA' rfl (by decide) (by decide) rfl ?_
      refine bq_goto (tgt := 15) dL_loads_9 (by decide) ?_
      refine bq_iconst (v := nI 0) dL_loads_15 (by decide) ?_
      exact bq_iret dL_loads_16 rfl (by first | rfl | decide) ⟨α', hE, hQ, rfl, rfl⟩
  · obtain ⟨α', hE, hQ, eo, rfl⟩ := hp
    cases F with
    | inl u => cases eo
    | inr E' =>
      cases eo
      rcases hF E rfl with rfl
      · refine bq_catch (name := "java/lang/IndexOutOfBoundsException") [] [] rfl (fun z hz => absurd hz List.not_mem_nil) rfl (by decide) kl_L_19 kt_L_19 (fun q => ?_)
        refine bq_astore_n (i := 3) dL_loads_12 (by decide) ?_
        refine bq_iconst (v := nI 1) dL_loads_13 (by decide) ?_
        exact bq_iret dL_loads_14 rfl (by first | rfl | decide) ⟨α', hE, hQ, by first | rfl | (simp [z_o, z_loads, b_IO, b_IA, b_IS]), rfl⟩
