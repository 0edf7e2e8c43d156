/-! ===== the calls ===== -/
abbrev b_R : Type := bp_O × bt_X × bt_X
def b_end (α : bt_A) (F : b_R) : bp_O → bq_O → Prop := match F with
  | (.inl v, σ, x) => bq_end (.inl v) (bt α σ x)
  | (.inr E, σ, x) => bq_end (.inr E) (bt (bt_rm α) σ x)
/-- what every call finds -/
def b_Ok (α : bt_A) (σ x : bt_X) : Prop := bt_J α σ x ∧ b_St σ ∧ b_cnt x (σ.2.2 0) ≤ 32 ∧ (∀ m, bt_V α 1 m ↔ m < b_nm σ) ∧ (∀ j, bt_V α 0 j ↔ j < b_nj σ) ∧
  (∀ j, j < b_nj σ → ∀ i ∈ σ.2.2 (8 + j), bt_V α 2 i) ∧ (∀ m, m < b_nm σ → ∀ i ∈ x.2.2 (4 + m), bt_V α 2 i) ∧ (∀ m, narrow .boolean (.int (σ.1 1 m 3)) = .int (σ.1 1 m 3)) ∧ (x.2.2 2).length ≤ 32
section BOK
variable {α : bt_A} {σ x : bt_X}
theorem b_Ok.J (h : b_Ok α σ x) : bt_J α σ x := h.1
theorem b_Ok.S (h : b_Ok α σ x) : b_St σ := h.2.1
theorem b_Ok.V1 (h : b_Ok α σ x) {m : Nat} (hm : m < b_nm σ) : bt_V α 1 m := (h.2.2.2.1 m).mpr hm
theorem b_Ok.V0 (h : b_Ok α σ x) {j : Nat} (hj : j < b_nj σ) : bt_V α 0 j := (h.2.2.2.2.1 j).mpr hj
theorem b_Ok.mem (h : b_Ok α σ x) {m : Nat} (hm : m < b_nm σ) : m ∈ σ.2.2 0 := by rw [h.2.1.1]; exact List.mem_range.mpr hm
theorem b_Ok.row (h : b_Ok α σ x) {m : Nat} (hm : m < b_nm σ) : (x.2.2 (4 + m)).length ≤ 32 := Nat.le_trans (b_cnt_mem (h.mem hm)) h.2.2.1
theorem b_St.nd (h : b_St σ) : (σ.2.2 0).Nodup := by rw [h.1]; exact List.nodup_range
theorem b_Ok.H0 (h : b_Ok α σ x) : b_H0 σ x := ⟨h.2.1.2.1, h.2.1.2.2.2.1, h.2.1.nd, h.2.2.1⟩
theorem bt_J.sg (J : bt_J α σ x) {c i k : Nat} {v : Int32} (hc : c ≠ 2) : bt_J α (bt_gs σ c i k v) x := by
  refine ⟨J.1, J.2.1, J.2.2.1, J.2.2.2.1, fun o hV => ?_, J.2.2.2.2.2⟩
  obtain ⟨h1, h2, h3, h4, h5⟩ := J.2.2.2.2.1 o hV
  have e : (bt_gs σ c i k v).1 2 o 4 = σ.1 2 o 4 := b_gs_ne (by omega)
  have e2 : b_fn (bt_gs σ c i k v) o = b_fn σ o := by unfold b_fn; rw [e]
  exact ⟨h1, h2, by rw [e, e2]; exact h3, h4, h5⟩
theorem b_nn {k : Int32} {n : Nat} (h1 : ¬ k < 0) (h2 : k < nI n) (hn : n < 2 ^ 31) : k = nI k.toNatClampNeg ∧ k.toNatClampNeg < n := by
  have e : b_ix n k = some k.toNatClampNeg := by unfold b_ix; rw [if_neg h1, if_pos h2]
  obtain ⟨g1, g2, -⟩ := b_ix_s hn e
  exact ⟨g1, g2⟩
end BOK
def b_setMag (σ x : bt_X) (a c : Int32) : b_R := match b_ix (b_nm σ) a with
  | none => (.inr b_IO, σ, x)
  | some m => if c < nI 1 then (.inr b_IA, σ, x) else if c ≤ nI 8 then (if σ.1 1 m 2 ≤ c then (.inl (some (.int (σ.1 1 m 1))), bt_gs σ 1 m 1 c, x) else (.inr b_IS, σ, x)) else (.inr b_IA, σ, x)
def b_brk (σ x : bt_X) (a f t : Int32) : b_R := match b_ix (b_nm σ) a with
  | none => (.inr b_IO, σ, x)
  | some m => if f < 0 then (.inr b_IA, σ, x) else if f < nI 10000 then (if t ≤ f then (.inr b_IA, σ, x) else if t ≤ nI 10000 then
      (.inl (some (.int ((b_all (bt_gs (bt_gs (bt_gs σ 1 m 3 (nI 1)) 1 m 4 f) 1 m 5 t) x).2.1 4 0 5))), bt_gs (bt_gs (bt_gs σ 1 m 3 (nI 1)) 1 m 4 f) 1 m 5 t, (b_all (bt_gs (bt_gs (bt_gs σ 1 m 3 (nI 1)) 1 m 4 f) 1 m 5 t) x).2) else (.inr b_IA, σ, x)) else (.inr b_IA, σ, x)
def b_rep (σ x : bt_X) (a : Int32) : b_R := match b_ix (b_nm σ) a with
  | none => (.inr b_IO, σ, x)
  | some m => (.inl (some (.int (σ.1 1 m 3))), bt_gs σ 1 m 3 (nI 0), (b_all (bt_gs σ 1 m 3 (nI 0)) x).2)
def b_set (σ x : bt_X) (f g t : Int32) : b_R :=
  if f < 0 then (.inr b_IO, σ, x) else if nI 4 ≤ f then (.inr b_IO, σ, x) else if g < 0 then (.inr b_IO, σ, x) else if g < nI 4 then
    (if t < 0 then (.inr b_IA, σ, x) else if t ≤ nI 60 then
      (.inl (some (.int (σ.1 8 (1 + f.toNatClampNeg) g.toNatClampNeg))), bt_gs σ 8 (1 + f.toNatClampNeg) g.toNatClampNeg t, (b_all (bt_gs σ 8 (1 + f.toNatClampNeg) g.toNatClampNeg t) x).2)
     else (.inr b_IA, σ, x)) else (.inr b_IO, σ, x)
set_option maxRecDepth 100000 in
set_option maxHeartbeats 400000 in
theorem k_setMag {G : bp_X} {α : bt_A} {σ x : bt_X} {a c : Int32} (h : b_Ok α σ x) (hroom : bt_us α + 7 ≤ bp_max)  : bq_S G mX5_setMagazine 7 [.ref (bt_ad α 5 0), .int a, .int c] (bt α σ x) (b_end α (b_setMag σ x a c)) := by
  have J := h.J
  have hS := h.S
  obtain ⟨F, hF⟩ : ∃ F, b_setMag σ x a c = F := ⟨_, rfl⟩
  rw [hF]
  refine bq_ofW (by decide +kernel) rfl (Nat.le_of_ble_eq_true rfl) ?_
  unfold b_setMag at hF
  cases e1 : b_ix (b_nm σ) a with
  | none =>
    rw [e1] at hF
    simp only [] at hF
    refine bq_aload_n (i := 0) dX5_setMagazine_0 rfl ?_
    refine bq_iload_n (i := 1) dX5_setMagazine_1 rfl ?_
    exact bt_callVe (c := 5) (i := 0) dX5_setMagazine_2 rfl ml_X5_40 J.v5 (by decide) (c_kmN J e1 hroom) (by decide) (by decide) (Nat.le_of_ble_eq_true rfl) rfl rfl (by subst hF; exact ⟨rfl, rfl⟩)
  | some m =>
    rw [e1] at hF
    simp only [] at hF
    have hb := hS.2.1
    obtain ⟨ea, hmn, -, -⟩ := b_ix_s (by omega) e1
    have hV := h.V1 hmn
    have hm := J.m4 hV
    have hrow := h.row hmn
    refine bq_aload_n (i := 0) dX5_setMagazine_0 rfl ?_
    refine bq_iload_n (i := 1) dX5_setMagazine_1 rfl ?_
    refine bt_callVr (c := 5) (i := 0) dX5_setMagazine_2 rfl ml_X5_40 (by first | assumption | exact J.v3 | exact J.v4 | exact J.v5 | exact J.v6 | exact J.l0 | exact J.l1 | exact J.l2 | exact J.l3 | exact J.row (by assumption) | exact J.ops (by assumption) | exact J.job (by assumption)) (by decide) (c_kmS J hS e1) (by decide) (by decide) (Nat.le_of_ble_eq_true rfl) rfl ?_
    refine bq_astore_n (i := 3) dX5_setMagazine_5 (by decide) ?_
    refine bq_iload_n (i := 2) dX5_setMagazine_6 rfl ?_
    refine bq_iconst (v := (nI 1)) dX5_setMagazine_7 (by decide) ?_
    refine bq_icmp_lt (tgt := 17) dX5_setMagazine_8 (by decide) (fun c_8 => ?_) (fun c_8 => ?_)
    · rw [if_pos c_8] at hF
      exact bq_throw dX5_setMagazine_17 dX5_setMagazine_20 dX5_setMagazine_21 dX5_setMagazine_23 dX5_setMagazine_26 tw_44_46_48 rfl (by decide) (Nat.le_of_ble_eq_true rfl) hroom (by subst hF; exact ⟨rfl, rfl⟩)
    · rw [if_neg c_8] at hF
      refine bq_iload_n (i := 2) dX5_setMagazine_11 rfl ?_
      refine bq_bipush (v := (nI 8)) dX5_setMagazine_12 (by decide) ?_
      refine bq_icmp_le (tgt := 27) dX5_setMagazine_14 (by decide) (fun c_14 => ?_) (fun c_14 => ?_)
      · rw [if_pos c_14] at hF
        refine bq_iload_n (i := 2) dX5_setMagazine_27 rfl ?_
        refine bq_aload_n (i := 3) dX5_setMagazine_28 rfl ?_
        refine bt_get4 dX5_setMagazine_29 fl_X5_49 (by first | assumption | exact J.v3 | exact J.v4 | exact J.v5 | exact J.v6 | exact J.l0 | exact J.l1 | exact J.l2 | exact J.l3 | exact J.row (by assumption) | exact J.ops (by assumption) | exact J.job (by assumption)) rfl (by decide) ?_
        refine bq_icmp_ge (tgt := 45) dX5_setMagazine_32 (by decide) (fun c_32 => ?_) (fun c_32 => ?_)
        · rw [if_pos c_32] at hF
          refine bq_aload_n (i := 3) dX5_setMagazine_45 rfl ?_
          refine bt_get4 dX5_setMagazine_46 fl_X5_55 (by first | assumption | exact J.v3 | exact J.v4 | exact J.v5 | exact J.v6 | exact J.l0 | exact J.l1 | exact J.l2 | exact J.l3 | exact J.row (by assumption) | exact J.ops (by assumption) | exact J.job (by assumption)) rfl (by decide) ?_
          refine bq_istore (i := 4) dX5_setMagazine_49 (by decide) ?_
          refine bq_aload_n (i := 3) dX5_setMagazine_51 rfl ?_
          refine bq_iload_n (i := 2) dX5_setMagazine_52 rfl ?_
          refine bt_put4 dX5_setMagazine_53 fl_X5_55 (by first | assumption | exact J.v3 | exact J.v4 | exact J.v5 | exact J.v6 | exact J.l0 | exact J.l1 | exact J.l2 | exact J.l3 | exact J.row (by assumption) | exact J.ops (by assumption) | exact J.job (by assumption)) rfl (by decide) (by first | rfl | decide) (by first | rfl | decide) ?_
          refine bq_iload (i := 4) dX5_setMagazine_56 rfl ?_
          exact bq_iret dX5_setMagazine_58 rfl (by first | rfl | decide) (by subst hF; exact ⟨rfl, rfl⟩)
        · rw [if_neg c_32] at hF
          exact bq_throw dX5_setMagazine_35 dX5_setMagazine_38 dX5_setMagazine_39 dX5_setMagazine_41 dX5_setMagazine_44 tw_26_53_30 rfl (by decide) (Nat.le_of_ble_eq_true rfl) hroom (by subst hF; exact ⟨rfl, rfl⟩)
      · rw [if_neg c_14] at hF
        exact bq_throw dX5_setMagazine_17 dX5_setMagazine_20 dX5_setMagazine_21 dX5_setMagazine_23 dX5_setMagazine_26 tw_44_46_48 rfl (by decide) (Nat.le_of_ble_eq_true rfl) hroom (by subst hF; exact ⟨rfl, rfl⟩)
set_option maxRecDepth 100000 in
set_option maxHeartbeats 400000 in
theorem k_brk {G : bp_X} {α : bt_A} {σ x : bt_X} {a f t : Int32} (h : b_Ok α σ x) (hroom : bt_us α + 7 ≤ bp_max)  : bq_S G mX5_breakdown 10 [.ref (bt_ad α 5 0), .int a, .int f, .int t] (bt α σ x) (b_end α (b_brk σ x a f t)) := by
  have J := h.J
  have hS := h.S
  obtain ⟨F, hF⟩ : ∃ F, b_brk σ x a f t = F := ⟨_, rfl⟩
  rw [hF]
  refine bq_ofW (by decide +kernel) rfl (Nat.le_of_ble_eq_true rfl) ?_
  unfold b_brk at hF
  cases e1 : b_ix (b_nm σ) a with
  | none =>
    rw [e1] at hF
    simp only [] at hF
    refine bq_aload_n (i := 0) dX5_breakdown_0 rfl ?_
    refine bq_iload_n (i := 1) dX5_breakdown_1 rfl ?_
    exact bt_callVe (c := 5) (i := 0) dX5_breakdown_2 rfl ml_X5_40 J.v5 (by decide) (c_kmN J e1 hroom) (by decide) (by decide) (Nat.le_of_ble_eq_true rfl) rfl rfl (by subst hF; exact ⟨rfl, rfl⟩)
  | some m =>
    rw [e1] at hF
    simp only [] at hF
    have hb := hS.2.1
    obtain ⟨ea, hmn, -, -⟩ := b_ix_s (by omega) e1
    have hV := h.V1 hmn
    have hm := J.m4 hV
    have hrow := h.row hmn
    refine bq_aload_n (i := 0) dX5_breakdown_0 rfl ?_
    refine bq_iload_n (i := 1) dX5_breakdown_1 rfl ?_
    refine bt_callVr (c := 5) (i := 0) dX5_breakdown_2 rfl ml_X5_40 (by first | assumption | exact J.v3 | exact J.v4 | exact J.v5 | exact J.v6 | exact J.l0 | exact J.l1 | exact J.l2 | exact J.l3 | exact J.row (by assumption) | exact J.ops (by assumption) | exact J.job (by assumption)) (by decide) (c_kmS J hS e1) (by decide) (by decide) (Nat.le_of_ble_eq_true rfl) rfl ?_
    refine bq_astore (i := 4) dX5_breakdown_5 (by decide) ?_
    refine bq_iload_n (i := 2) dX5_breakdown_7 rfl ?_
    refine bq_if_lt (tgt := 18) dX5_breakdown_8 (by decide) (fun c_8 => ?_) (fun c_8 => ?_)
    · rw [if_pos c_8] at hF
      exact bq_throw dX5_breakdown_18 dX5_breakdown_21 dX5_breakdown_22 dX5_breakdown_24 dX5_breakdown_27 tw_44_58_48 rfl (by decide) (Nat.le_of_ble_eq_true rfl) hroom (by subst hF; exact ⟨rfl, rfl⟩)
    · rw [if_neg c_8] at hF
      refine bq_iload_n (i := 2) dX5_breakdown_11 rfl ?_
      refine bq_sipush (v := (nI 10000)) dX5_breakdown_12 (by decide) ?_
      refine bq_icmp_lt (tgt := 28) dX5_breakdown_15 (by decide) (fun c_15 => ?_) (fun c_15 => ?_)
      · rw [if_pos c_15] at hF
        refine bq_iload_n (i := 3) dX5_breakdown_28 rfl ?_
        refine bq_iload_n (i := 2) dX5_breakdown_29 rfl ?_
        refine bq_icmp_le (tgt := 40) dX5_breakdown_30 (by decide) (fun c_30 => ?_) (fun c_30 => ?_)
        · rw [if_pos c_30] at hF
          exact bq_throw dX5_breakdown_40 dX5_breakdown_43 dX5_breakdown_44 dX5_breakdown_46 dX5_breakdown_49 tw_44_60_48 rfl (by decide) (Nat.le_of_ble_eq_true rfl) hroom (by subst hF; exact ⟨rfl, rfl⟩)
        · rw [if_neg c_30] at hF
          refine bq_iload_n (i := 3) dX5_breakdown_33 rfl ?_
          refine bq_sipush (v := (nI 10000)) dX5_breakdown_34 (by decide) ?_
          refine bq_icmp_le (tgt := 50) dX5_breakdown_37 (by decide) (fun c_37 => ?_) (fun c_37 => ?_)
          · rw [if_pos c_37] at hF
            refine bq_aload (i := 4) dX5_breakdown_50 rfl ?_
            refine bq_iconst (v := (nI 1)) dX5_breakdown_52 (by decide) ?_
            refine bt_put4 dX5_breakdown_53 fl_X5_62 (by first | assumption | exact J.v3 | exact J.v4 | exact J.v5 | exact J.v6 | exact J.l0 | exact J.l1 | exact J.l2 | exact J.l3 | exact J.row (by assumption) | exact J.ops (by assumption) | exact J.job (by assumption)) rfl (by decide) (by first | rfl | decide) (by first | rfl | decide) ?_
            refine bq_aload (i := 4) dX5_breakdown_56 rfl ?_
            refine bq_iload_n (i := 2) dX5_breakdown_58 rfl ?_
            refine bt_put4 dX5_breakdown_59 fl_X5_66 (by first | assumption | exact J.v3 | exact J.v4 | exact J.v5 | exact J.v6 | exact J.l0 | exact J.l1 | exact J.l2 | exact J.l3 | exact J.row (by assumption) | exact J.ops (by assumption) | exact J.job (by assumption)) rfl (by decide) (by first | rfl | decide) (by first | rfl | decide) ?_
            refine bq_aload (i := 4) dX5_breakdown_62 rfl ?_
            refine bq_iload_n (i := 3) dX5_breakdown_64 rfl ?_
            refine bt_put4 dX5_breakdown_65 fl_X5_69 (by first | assumption | exact J.v3 | exact J.v4 | exact J.v5 | exact J.v6 | exact J.l0 | exact J.l1 | exact J.l2 | exact J.l3 | exact J.row (by assumption) | exact J.ops (by assumption) | exact J.job (by assumption)) rfl (by decide) (by first | rfl | decide) (by first | rfl | decide) ?_
            refine bq_aload_n (i := 0) dX5_breakdown_68 rfl ?_
            refine bt_get3 (c' := 4) (n := 0) dX5_breakdown_69 fl_X5_12 (by first | assumption | exact J.v3 | exact J.v4 | exact J.v5 | exact J.v6 | exact J.l0 | exact J.l1 | exact J.l2 | exact J.l3 | exact J.row (by assumption) | exact J.ops (by assumption) | exact J.job (by assumption)) ⟨rfl, rfl, rfl⟩ (by decide) ?_
            refine bt_callVr (c := 4) (i := 0) dX5_breakdown_72 rfl ml_X5_72 (by first | assumption | exact J.v3 | exact J.v4 | exact J.v5 | exact J.v6 | exact J.l0 | exact J.l1 | exact J.l2 | exact J.l3 | exact J.row (by assumption) | exact J.ops (by assumption) | exact J.job (by assumption)) (by decide) (c_all (((J.sg (by decide)).sg (by decide)).sg (by decide)) h.H0) (by decide) (by decide) (Nat.le_of_ble_eq_true rfl) rfl ?_
            refine bq_pop dX5_breakdown_75 rfl ?_
            refine bq_aload_n (i := 0) dX5_breakdown_76 rfl ?_
            refine bt_get3 (c' := 4) (n := 0) dX5_breakdown_77 fl_X5_12 (by first | assumption | exact J.v3 | exact J.v4 | exact J.v5 | exact J.v6 | exact J.l0 | exact J.l1 | exact J.l2 | exact J.l3 | exact J.row (by assumption) | exact J.ops (by assumption) | exact J.job (by assumption)) ⟨rfl, rfl, rfl⟩ (by decide) ?_
            refine bt_get0 dX5_breakdown_80 fl_X5_76 (by first | assumption | exact J.v3 | exact J.v4 | exact J.v5 | exact J.v6 | exact J.l0 | exact J.l1 | exact J.l2 | exact J.l3 | exact J.row (by assumption) | exact J.ops (by assumption) | exact J.job (by assumption)) rfl (by decide) ?_
            exact bq_iret dX5_breakdown_83 rfl (by first | rfl | decide) (by subst hF; exact ⟨rfl, rfl⟩)
          · rw [if_neg c_37] at hF
            exact bq_throw dX5_breakdown_40 dX5_breakdown_43 dX5_breakdown_44 dX5_breakdown_46 dX5_breakdown_49 tw_44_60_48 rfl (by decide) (Nat.le_of_ble_eq_true rfl) hroom (by subst hF; exact ⟨rfl, rfl⟩)
      · rw [if_neg c_15] at hF
        exact bq_throw dX5_breakdown_18 dX5_breakdown_21 dX5_breakdown_22 dX5_breakdown_24 dX5_breakdown_27 tw_44_58_48 rfl (by decide) (Nat.le_of_ble_eq_true rfl) hroom (by subst hF; exact ⟨rfl, rfl⟩)
set_option maxRecDepth 100000 in
set_option maxHeartbeats 400000 in
theorem k_rep {G : bp_X} {α : bt_A} {σ x : bt_X} {a : Int32} (h : b_Ok α σ x) (hroom : bt_us α + 7 ≤ bp_max)  : bq_S G mX5_repair 10 [.ref (bt_ad α 5 0), .int a] (bt α σ x) (b_end α (b_rep σ x a)) := by
  have J := h.J
  have hS := h.S
  obtain ⟨F, hF⟩ : ∃ F, b_rep σ x a = F := ⟨_, rfl⟩
  rw [hF]
  refine bq_ofW (by decide +kernel) rfl (Nat.le_of_ble_eq_true rfl) ?_
  unfold b_rep at hF
  cases e1 : b_ix (b_nm σ) a with
  | none =>
    rw [e1] at hF
    simp only [] at hF
    refine bq_aload_n (i := 0) dX5_repair_0 rfl ?_
    refine bq_iload_n (i := 1) dX5_repair_1 rfl ?_
    exact bt_callVe (c := 5) (i := 0) dX5_repair_2 rfl ml_X5_40 J.v5 (by decide) (c_kmN J e1 hroom) (by decide) (by decide) (Nat.le_of_ble_eq_true rfl) rfl rfl (by subst hF; exact ⟨rfl, rfl⟩)
  | some m =>
    rw [e1] at hF
    simp only [] at hF
    have hb := hS.2.1
    obtain ⟨ea, hmn, -, -⟩ := b_ix_s (by omega) e1
    have hV := h.V1 hmn
    have hm := J.m4 hV
    have hrow := h.row hmn
    refine bq_aload_n (i := 0) dX5_repair_0 rfl ?_
    refine bq_iload_n (i := 1) dX5_repair_1 rfl ?_
    refine bt_callVr (c := 5) (i := 0) dX5_repair_2 rfl ml_X5_40 (by first | assumption | exact J.v3 | exact J.v4 | exact J.v5 | exact J.v6 | exact J.l0 | exact J.l1 | exact J.l2 | exact J.l3 | exact J.row (by assumption) | exact J.ops (by assumption) | exact J.job (by assumption)) (by decide) (c_kmS J hS e1) (by decide) (by decide) (Nat.le_of_ble_eq_true rfl) rfl ?_
    refine bq_astore_n (i := 2) dX5_repair_5 (by decide) ?_
    refine bq_aload_n (i := 2) dX5_repair_6 rfl ?_
    refine bt_get4 dX5_repair_7 fl_X5_62 (by first | assumption | exact J.v3 | exact J.v4 | exact J.v5 | exact J.v6 | exact J.l0 | exact J.l1 | exact J.l2 | exact J.l3 | exact J.row (by assumption) | exact J.ops (by assumption) | exact J.job (by assumption)) rfl (by decide) ?_
    refine bq_istore_n (i := 3) dX5_repair_10 (by decide) ?_
    refine bq_aload_n (i := 2) dX5_repair_11 rfl ?_
    refine bq_iconst (v := (nI 0)) dX5_repair_12 (by decide) ?_
    refine bt_put4 dX5_repair_13 fl_X5_62 (by first | assumption | exact J.v3 | exact J.v4 | exact J.v5 | exact J.v6 | exact J.l0 | exact J.l1 | exact J.l2 | exact J.l3 | exact J.row (by assumption) | exact J.ops (by assumption) | exact J.job (by assumption)) rfl (by decide) (by first | rfl | decide) (by first | rfl | decide) ?_
    refine bq_aload_n (i := 0) dX5_repair_16 rfl ?_
    refine bt_get3 (c' := 4) (n := 0) dX5_repair_17 fl_X5_12 (by first | assumption | exact J.v3 | exact J.v4 | exact J.v5 | exact J.v6 | exact J.l0 | exact J.l1 | exact J.l2 | exact J.l3 | exact J.row (by assumption) | exact J.ops (by assumption) | exact J.job (by assumption)) ⟨rfl, rfl, rfl⟩ (by decide) ?_
    refine bt_callVr (c := 4) (i := 0) dX5_repair_20 rfl ml_X5_72 (by first | assumption | exact J.v3 | exact J.v4 | exact J.v5 | exact J.v6 | exact J.l0 | exact J.l1 | exact J.l2 | exact J.l3 | exact J.row (by assumption) | exact J.ops (by assumption) | exact J.job (by assumption)) (by decide) (c_all (J.sg (by decide)) h.H0) (by decide) (by decide) (Nat.le_of_ble_eq_true rfl) rfl ?_
    refine bq_pop dX5_repair_23 rfl ?_
    refine bq_iload_n (i := 3) dX5_repair_24 rfl ?_
    exact bq_iret dX5_repair_25 rfl (h.2.2.2.2.2.2.2.1 m) (by subst hF; exact ⟨rfl, rfl⟩)
set_option maxRecDepth 100000 in
set_option maxHeartbeats 400000 in
theorem k_set {G : bp_X} {α : bt_A} {σ x : bt_X} {f g t : Int32} (h : b_Ok α σ x) (hroom : bt_us α + 7 ≤ bp_max)  : bq_S G mX5_setSetup 10 [.ref (bt_ad α 5 0), .int f, .int g, .int t] (bt α σ x) (b_end α (b_set σ x f g t)) := by
  have J := h.J
  have hS := h.S
  obtain ⟨F, hF⟩ : ∃ F, b_set σ x f g t = F := ⟨_, rfl⟩
  rw [hF]
  refine bq_ofW (by decide +kernel) rfl (Nat.le_of_ble_eq_true rfl) ?_
  unfold b_set at hF
  refine bq_iload_n (i := 1) dX5_setSetup_0 rfl ?_
  refine bq_if_lt (tgt := 18) dX5_setSetup_1 (by decide) (fun c_1 => ?_) (fun c_1 => ?_)
  · rw [if_pos c_1] at hF
    exact bq_throw dX5_setSetup_18 dX5_setSetup_21 dX5_setSetup_22 dX5_setSetup_24 dX5_setSetup_27 tw_123_125_127 rfl (by decide) (Nat.le_of_ble_eq_true rfl) hroom (by subst hF; exact ⟨rfl, rfl⟩)
  · rw [if_neg c_1] at hF
    refine bq_iload_n (i := 1) dX5_setSetup_4 rfl ?_
    refine bq_iconst (v := (nI 4)) dX5_setSetup_5 (by decide) ?_
    refine bq_icmp_ge (tgt := 18) dX5_setSetup_6 (by decide) (fun c_6 => ?_) (fun c_6 => ?_)
    · rw [if_pos c_6] at hF
      exact bq_throw dX5_setSetup_18 dX5_setSetup_21 dX5_setSetup_22 dX5_setSetup_24 dX5_setSetup_27 tw_123_125_127 rfl (by decide) (Nat.le_of_ble_eq_true rfl) hroom (by subst hF; exact ⟨rfl, rfl⟩)
    · rw [if_neg c_6] at hF
      refine bq_iload_n (i := 2) dX5_setSetup_9 rfl ?_
      refine bq_if_lt (tgt := 18) dX5_setSetup_10 (by decide) (fun c_10 => ?_) (fun c_10 => ?_)
      · rw [if_pos c_10] at hF
        exact bq_throw dX5_setSetup_18 dX5_setSetup_21 dX5_setSetup_22 dX5_setSetup_24 dX5_setSetup_27 tw_123_125_127 rfl (by decide) (Nat.le_of_ble_eq_true rfl) hroom (by subst hF; exact ⟨rfl, rfl⟩)
      · rw [if_neg c_10] at hF
        refine bq_iload_n (i := 2) dX5_setSetup_13 rfl ?_
        refine bq_iconst (v := (nI 4)) dX5_setSetup_14 (by decide) ?_
        refine bq_icmp_lt (tgt := 28) dX5_setSetup_15 (by decide) (fun c_15 => ?_) (fun c_15 => ?_)
        · rw [if_pos c_15] at hF
          obtain ⟨f1, f2⟩ := b_nn c_1 (Int32.not_le.mp c_6) (by decide)
          obtain ⟨o1, o2⟩ := b_nn c_10 c_15 (by decide)
          refine bq_iload_n (i := 3) dX5_setSetup_28 rfl ?_
          refine bq_if_lt (tgt := 38) dX5_setSetup_29 (by decide) (fun c_29 => ?_) (fun c_29 => ?_)
          · rw [if_pos c_29] at hF
            exact bq_throw dX5_setSetup_38 dX5_setSetup_41 dX5_setSetup_42 dX5_setSetup_44 dX5_setSetup_47 tw_44_128_48 rfl (by decide) (Nat.le_of_ble_eq_true rfl) hroom (by subst hF; exact ⟨rfl, rfl⟩)
          · rw [if_neg c_29] at hF
            refine bq_iload_n (i := 3) dX5_setSetup_32 rfl ?_
            refine bq_bipush (v := (nI 60)) dX5_setSetup_33 (by decide) ?_
            refine bq_icmp_le (tgt := 48) dX5_setSetup_35 (by decide) (fun c_35 => ?_) (fun c_35 => ?_)
            · rw [if_pos c_35] at hF
              refine bq_aload_n (i := 0) dX5_setSetup_48 rfl ?_
              refine bt_get3 (c' := 4) (n := 0) dX5_setSetup_49 fl_X5_12 (by first | assumption | exact J.v3 | exact J.v4 | exact J.v5 | exact J.v6 | exact J.l0 | exact J.l1 | exact J.l2 | exact J.l3 | exact J.row (by assumption) | exact J.ops (by assumption) | exact J.job (by assumption)) ⟨rfl, rfl, rfl⟩ (by decide) ?_
              refine bt_get3 (c' := 3) (n := 0) dX5_setSetup_52 fl_X5_130 (by first | assumption | exact J.v3 | exact J.v4 | exact J.v5 | exact J.v6 | exact J.l0 | exact J.l1 | exact J.l2 | exact J.l3 | exact J.row (by assumption) | exact J.ops (by assumption) | exact J.job (by assumption)) ⟨rfl, rfl, rfl⟩ (by decide) ?_
              refine bt_get3 (c' := 8) (n := 0) dX5_setSetup_55 fl_X5_134 (by first | assumption | exact J.v3 | exact J.v4 | exact J.v5 | exact J.v6 | exact J.l0 | exact J.l1 | exact J.l2 | exact J.l3 | exact J.row (by assumption) | exact J.ops (by assumption) | exact J.job (by assumption)) ⟨rfl, rfl, rfl⟩ (by decide) ?_
              refine bq_iload_n (i := 1) dX5_setSetup_58 rfl ?_
              refine bt_aald3 (n := 0) (j := f.toNatClampNeg) (m := 1 + f.toNatClampNeg) dX5_setSetup_59 J.a0 f1 (by exact f2) (by decide) ⟨rfl, rfl⟩ ?_
              refine bq_iload_n (i := 2) dX5_setSetup_60 rfl ?_
              refine bt_iald4 (n := (1 + f.toNatClampNeg)) (j := g.toNatClampNeg) dX5_setSetup_61 (J.am f2) o1 (by exact o2) (by decide) (bt_t_min f2) ?_
              refine bq_istore (i := 4) dX5_setSetup_62 (by decide) ?_
              refine bq_aload_n (i := 0) dX5_setSetup_64 rfl ?_
              refine bt_get3 (c' := 4) (n := 0) dX5_setSetup_65 fl_X5_12 (by first | assumption | exact J.v3 | exact J.v4 | exact J.v5 | exact J.v6 | exact J.l0 | exact J.l1 | exact J.l2 | exact J.l3 | exact J.row (by assumption) | exact J.ops (by assumption) | exact J.job (by assumption)) ⟨rfl, rfl, rfl⟩ (by decide) ?_
              refine bt_get3 (c' := 3) (n := 0) dX5_setSetup_68 fl_X5_130 (by first | assumption | exact J.v3 | exact J.v4 | exact J.v5 | exact J.v6 | exact J.l0 | exact J.l1 | exact J.l2 | exact J.l3 | exact J.row (by assumption) | exact J.ops (by assumption) | exact J.job (by assumption)) ⟨rfl, rfl, rfl⟩ (by decide) ?_
              refine bt_get3 (c' := 8) (n := 0) dX5_setSetup_71 fl_X5_134 (by first | assumption | exact J.v3 | exact J.v4 | exact J.v5 | exact J.v6 | exact J.l0 | exact J.l1 | exact J.l2 | exact J.l3 | exact J.row (by assumption) | exact J.ops (by assumption) | exact J.job (by assumption)) ⟨rfl, rfl, rfl⟩ (by decide) ?_
              refine bq_iload_n (i := 1) dX5_setSetup_74 rfl ?_
              refine bt_aald3 (n := 0) (j := f.toNatClampNeg) (m := 1 + f.toNatClampNeg) dX5_setSetup_75 J.a0 f1 (by exact f2) (by decide) ⟨rfl, rfl⟩ ?_
              refine bq_iload_n (i := 2) dX5_setSetup_76 rfl ?_
              refine bq_iload_n (i := 3) dX5_setSetup_77 rfl ?_
              refine bt_iast4 (n := (1 + f.toNatClampNeg)) (j := g.toNatClampNeg) dX5_setSetup_78 (J.am f2) o1 (by exact o2) (by decide) (bt_t_min f2) ?_
              refine bq_aload_n (i := 0) dX5_setSetup_79 rfl ?_
              refine bt_get3 (c' := 4) (n := 0) dX5_setSetup_80 fl_X5_12 (by first | assumption | exact J.v3 | exact J.v4 | exact J.v5 | exact J.v6 | exact J.l0 | exact J.l1 | exact J.l2 | exact J.l3 | exact J.row (by assumption) | exact J.ops (by assumption) | exact J.job (by assumption)) ⟨rfl, rfl, rfl⟩ (by decide) ?_
              refine bt_callVr (c := 4) (i := 0) dX5_setSetup_83 rfl ml_X5_72 (by first | assumption | exact J.v3 | exact J.v4 | exact J.v5 | exact J.v6 | exact J.l0 | exact J.l1 | exact J.l2 | exact J.l3 | exact J.row (by assumption) | exact J.ops (by assumption) | exact J.job (by assumption)) (by decide) (c_all (J.sg (by decide)) h.H0) (by decide) (by decide) (Nat.le_of_ble_eq_true rfl) rfl ?_
              refine bq_pop dX5_setSetup_86 rfl ?_
              refine bq_iload (i := 4) dX5_setSetup_87 rfl ?_
              exact bq_iret dX5_setSetup_89 rfl (by first | rfl | decide) (by subst hF; exact ⟨rfl, rfl⟩)
            · rw [if_neg c_35] at hF
              exact bq_throw dX5_setSetup_38 dX5_setSetup_41 dX5_setSetup_42 dX5_setSetup_44 dX5_setSetup_47 tw_44_128_48 rfl (by decide) (Nat.le_of_ble_eq_true rfl) hroom (by subst hF; exact ⟨rfl, rfl⟩)
        · rw [if_neg c_15] at hF
          exact bq_throw dX5_setSetup_18 dX5_setSetup_21 dX5_setSetup_22 dX5_setSetup_24 dX5_setSetup_27 tw_123_125_127 rfl (by decide) (Nat.le_of_ble_eq_true rfl) hroom (by subst hF; exact ⟨rfl, rfl⟩)
