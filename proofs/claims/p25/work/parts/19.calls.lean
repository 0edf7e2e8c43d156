/-! ===== the calls ===== -/
abbrev b_R : Type := bp_O × bt_X × bt_X
def b_end (α : bt_A) (F : b_R) : bp_O → bq_O → Prop := match F with
  | (.inl v, σ, x) => bq_end (.inl v) (bt α σ x)
  | (.inr E, σ, x) => bq_end (.inr E) (bt (bt_rm α) σ x)
/-- what every call finds -/
def b_Ok (α : bt_A) (σ x : bt_X) : Prop := bt_J α σ x ∧ b_St σ ∧ b_cnt x (σ.2.2 0) ≤ 32 ∧ (∀ m, bt_V α 1 m ↔ m < b_nm σ) ∧ (∀ j, bt_V α 0 j ↔ j < b_nj σ) ∧
  (∀ j, j < b_nj σ → ∀ i ∈ σ.2.2 (8 + j), bt_V α 2 i) ∧ (∀ m, m < b_nm σ → ∀ i ∈ x.2.2 (4 + m), bt_V α 2 i) ∧ (∀ m, m < b_nm σ → narrow .boolean (.int (σ.1 1 m 3)) = .int (σ.1 1 m 3)) ∧ (x.2.2 2).length ≤ 32
section BOK
variable {α : bt_A} {σ x : bt_X}
theorem b_Ok.J (h : b_Ok α σ x) : bt_J α σ x := h.1
theorem b_Ok.S (h : b_Ok α σ x) : b_St σ := h.2.1
theorem b_Ok.V1 (h : b_Ok α σ x) {m : Nat} (hm : m < b_nm σ) : bt_V α 1 m := (h.2.2.2.1 m).mpr hm
theorem b_Ok.V0 (h : b_Ok α σ x) {j : Nat} (hj : j < b_nj σ) : bt_V α 0 j := (h.2.2.2.2.1 j).mpr hj
theorem b_Ok.mem (h : b_Ok α σ x) {m : Nat} (hm : m < b_nm σ) : m ∈ σ.2.2 0 := by rw [h.2.1.1]; exact List.mem_range.mpr hm
theorem b_Ok.row (h : b_Ok α σ x) {m : Nat} (hm : m < b_nm σ) : (x.2.2 (4 + m)).length ≤ 32 := Nat.le_trans (b_cnt_mem (h.mem hm)) h.2.2.1
theorem b_St.nd (h : b_St σ) : (σ.2.2 0).Nodup := by rw [h.1]; exact List.nodup_range
theorem b_Ok.H0 (h : b_Ok α σ x) : b_H0 σ x := ⟨h.2.1.2.1, h.2.1.2.2.2.1, h.2.1.nd, h.2.2.1⟩
theorem bt_J.sg (J : bt_J α σ x) {c i k : Nat} {v : Int32} (hc : c ≠ 2) : bt_J α (bt_gs σ c i k v) x := by
  refine ⟨J.1, J.2.1, J.2.2.1, J.2.2.2.1, fun o hV => ?_, J.2.2.2.2.2⟩
  obtain ⟨h1, h2, h3, h4, h5⟩ := J.2.2.2.2.1 o hV
  have e : (bt_gs σ c i k v).1 2 o 4 = σ.1 2 o 4 := b_gs_ne (by omega)
  have e2 : b_fn (bt_gs σ c i k v) o = b_fn σ o := by unfold b_fn; rw [e]
  exact ⟨h1, h2, by rw [e, e2]; exact h3, h4, h5⟩
theorem b_nn {k : Int32} {n : Nat} (h1 : ¬ k < 0) (h2 : k < nI n) (hn : n < 2 ^ 31) : k = nI k.toNatClampNeg ∧ k.toNatClampNeg < n := by
  have e : b_ix n k = some k.toNatClampNeg := by unfold b_ix; rw [if_neg h1, if_pos h2]
  obtain ⟨g1, g2, -⟩ := b_ix_s hn e
  exact ⟨g1, g2⟩
end BOK
def b_setMag (σ x : bt_X) (a c : Int32) : b_R := match b_ix (b_nm σ) a with
  | none => (.inr b_IO, σ, x)
  | some m => if c < nI 1 then (.inr b_IA, σ, x) else if c ≤ nI 8 then (if σ.1 1 m 2 ≤ c then (.inl (some (.int (σ.1 1 m 1))), bt_gs σ 1 m 1 c, x) else (.inr b_IS, σ, x)) else (.inr b_IA, σ, x)
def b_brk (σ x : bt_X) (a f t : Int32) : b_R := match b_ix (b_nm σ) a with
  | none => (.inr b_IO, σ, x)
  | some m => if f < 0 then (.inr b_IA, σ, x) else if f < nI 10000 then (if t ≤ f then (.inr b_IA, σ, x) else if t ≤ nI 10000 then
      (.inl (some (.int ((b_all (bt_gs (bt_gs (bt_gs σ 1 m 3 (nI 1)) 1 m 4 f) 1 m 5 t) x).2.1 4 0 5))), bt_gs (bt_gs (bt_gs σ 1 m 3 (nI 1)) 1 m 4 f) 1 m 5 t, (b_all (bt_gs (bt_gs (bt_gs σ 1 m 3 (nI 1)) 1 m 4 f) 1 m 5 t) x).2) else (.inr b_IA, σ, x)) else (.inr b_IA, σ, x)
def b_rep (σ x : bt_X) (a : Int32) : b_R := match b_ix (b_nm σ) a with
  | none => (.inr b_IO, σ, x)
  | some m => (.inl (some (.int (σ.1 1 m 3))), bt_gs σ 1 m 3 (nI 0), (b_all (bt_gs σ 1 m 3 (nI 0)) x).2)
def b_set (σ x : bt_X) (f g t : Int32) : b_R :=
  if f < 0 then (.inr b_IO, σ, x) else if nI 4 ≤ f then (.inr b_IO, σ, x) else if g < 0 then (.inr b_IO, σ, x) else if g < nI 4 then
    (if t < 0 then (.inr b_IA, σ, x) else if t ≤ nI 60 then
      (.inl (some (.int (σ.1 8 (1 + f.toNatClampNeg) g.toNatClampNeg))), bt_gs σ 8 (1 + f.toNatClampNeg) g.toNatClampNeg t, (b_all (bt_gs σ 8 (1 + f.toNatClampNeg) g.toNatClampNeg t) x).2)
     else (.inr b_IA, σ, x)) else (.inr b_IO, σ, x)
set_option maxRecDepth 100000 in
set_option maxHeartbeats 400000 in
theorem k_setMag {G : bp_X} {α : bt_A} {σ x : bt_X} {a c : Int32} (h : b_Ok α σ x) (hroom : bt_us α + 7 ≤ bp_max)  : bq_S G mX5_setMagazine 7 [.ref (bt_ad α 5 0), .int a, .int c] (bt α σ x) (b_end α (b_setMag σ x a c)) := by
  have J := h.J
  have hS := h.S
  obtain ⟨F, hF⟩ : ∃ F, b_setMag σ x a c = F := ⟨_, rfl⟩
  rw [hF]
  refine bq_ofW (by decide +kernel) rfl (Nat.le_of_ble_eq_true rfl) ?_
  unfold b_setMag at hF
  cases e1 : b_ix (b_nm σ) a with
  | none =>
    rw [e1] at hF
    simp only [] at hF
    refine bq_aload_n (i := 0) dX5_setMagazine_0 rfl ?_
    refine bq_iload_n (i := 1) dX5_setMagazine_1 rfl ?_
    exact bt_callVe (c := 5) (i := 0) dX5_setMagazine_2 rfl ml_X5_40 J.v5 (by decide) (c_kmN J e1 hroom) (by decide) (by decide) (Nat.le_of_ble_eq_true rfl) rfl rfl (by subst hF; exact ⟨rfl, rfl⟩)
  | some m =>
    rw [e1] at hF
    simp only [] at hF
    have hb := hS.2.1
    obtain ⟨ea, hmn, -, -⟩ := b_ix_s (by omega) e1
    have hV := h.V1 hmn
    have hm := J.m4 hV
    have hrow := h.row hmn
    refine bq_aload_n (i := 0) dX5_setMagazine_0 rfl ?_
    refine bq_iload_n (i := 1) dX5_setMagazine_1 rfl ?_
    refine bt_callVr (c := 5) (i := 0) dX5_setMagazine_2 rfl ml_X5_40 (by first | assumption | exact J.v3 | exact J.v4 | exact J.v5 | exact J.v6 | exact J.l0 | exact J.l1 | exact J.l2 | exact J.l3 | exact J.row (by assumption) | exact J.ops (by assumption) | exact J.job (by assumption)) (by decide) (c_kmS J hS e1) (by decide) (by decide) (Nat.le_of_ble_eq_true rfl) rfl ?_
    refine bq_astore_n (i := 3) dX5_setMagazine_5 (by decide) ?_
    refine bq_iload_n (i := 2) dX5_setMagazine_6 rfl ?_
    refine bq_iconst (v := (nI 1)) dX5_setMagazine_7 (by decide) ?_
    refine bq_icmp_lt (tgt := 17) dX5_setMagazine_8 (by decide) (fun c_8 => ?_) (fun c_8 => ?_)
    · rw [if_pos c_8] at hF
      exact bq_throw dX5_setMagazine_17 dX5_setMagazine_20 dX5_setMagazine_21 dX5_setMagazine_23 dX5_setMagazine_26 tw_44_46_48 rfl (by decide) (Nat.le_of_ble_eq_true rfl) hroom (by subst hF; exact ⟨rfl, rfl⟩)
    · rw [if_neg c_8] at hF
      refine bq_iload_n (i := 2) dX5_setMagazine_11 rfl ?_
      refine bq_bipush (v := (nI 8)) dX5_setMagazine_12 (by decide) ?_
      refine bq_icmp_le (tgt := 27) dX5_setMagazine_14 (by decide) (fun c_14 => ?_) (fun c_14 => ?_)
      · rw [if_pos c_14] at hF
        refine bq_iload_n (i := 2) dX5_setMagazine_27 rfl ?_
        refine bq_aload_n (i := 3) dX5_setMagazine_28 rfl ?_
        refine bt_get4 dX5_setMagazine_29 fl_X5_49 (by first | assumption | exact J.v3 | exact J.v4 | exact J.v5 | exact J.v6 | exact J.l0 | exact J.l1 | exact J.l2 | exact J.l3 | exact J.row (by assumption) | exact J.ops (by assumption) | exact J.job (by assumption)) rfl (by decide) ?_
        refine bq_icmp_ge (tgt := 45) dX5_setMagazine_32 (by decide) (fun c_32 => ?_) (fun c_32 => ?_)
        · rw [if_pos c_32] at hF
          refine bq_aload_n (i := 3) dX5_setMagazine_45 rfl ?_
          refine bt_get4 dX5_setMagazine_46 fl_X5_55 (by first | assumption | exact J.v3 | exact J.v4 | exact J.v5 | exact J.v6 | exact J.l0 | exact J.l1 | exact J.l2 | exact J.l3 | exact J.row (by assumption) | exact J.ops (by assumption) | exact J.job (by assumption)) rfl (by decide) ?_
          refine bq_istore (i := 4) dX5_setMagazine_49 (by decide) ?_
          refine bq_aload_n (i := 3) dX5_setMagazine_51 rfl ?_
          refine bq_iload_n (i := 2) dX5_setMagazine_52 rfl ?_
          refine bt_put4 dX5_setMagazine_53 fl_X5_55 (by first | assumption | exact J.v3 | exact J.v4 | exact J.v5 | exact J.v6 | exact J.l0 | exact J.l1 | exact J.l2 | exact J.l3 | exact J.row (by assumption) | exact J.ops (by assumption) | exact J.job (by assumption)) rfl (by decide) (by first | rfl | decide) (by first | rfl | decide) ?_
          refine bq_iload (i := 4) dX5_setMagazine_56 rfl ?_
          exact bq_iret dX5_setMagazine_58 rfl (by first | rfl | decide) (by subst hF; exact ⟨rfl, rfl⟩)
        · rw [if_neg c_32] at hF
          exact bq_throw dX5_setMagazine_35 dX5_setMagazine_38 dX5_setMagazine_39 dX5_setMagazine_41 dX5_setMagazine_44 tw_26_53_30 rfl (by decide) (Nat.le_of_ble_eq_true rfl) hroom (by subst hF; exact ⟨rfl, rfl⟩)
      · rw [if_neg c_14] at hF
        exact bq_throw dX5_setMagazine_17 dX5_setMagazine_20 dX5_setMagazine_21 dX5_setMagazine_23 dX5_setMagazine_26 tw_44_46_48 rfl (by decide) (Nat.le_of_ble_eq_true rfl) hroom (by subst hF; exact ⟨rfl, rfl⟩)
set_option maxRecDepth 100000 in
set_option maxHeartbeats 400000 in
theorem k_brk {G : bp_X} {α : bt_A} {σ x : bt_X} {a f t : Int32} (h : b_Ok α σ x) (hroom : bt_us α + 7 ≤ bp_max)  : bq_S G mX5_breakdown 10 [.ref (bt_ad α 5 0), .int a, .int f, .int t] (bt α σ x) (b_end α (b_brk σ x a f t)) := by
  have J := h.J
  have hS := h.S
  obtain ⟨F, hF⟩ : ∃ F, b_brk σ x a f t = F := ⟨_, rfl⟩
  rw [hF]
  refine bq_ofW (by decide +kernel) rfl (Nat.le_of_ble_eq_true rfl) ?_
  unfold b_brk at hF
  cases e1 : b_ix (b_nm σ) a with
  | none =>
    rw [e1] at hF
    simp only [] at hF
    refine bq_aload_n (i := 0) dX5_breakdown_0 rfl ?_
    refine bq_iload_n (i := 1) dX5_breakdown_1 rfl ?_
    exact bt_callVe (c := 5) (i := 0) dX5_breakdown_2 rfl ml_X5_40 J.v5 (by decide) (c_kmN J e1 hroom) (by decide) (by decide) (Nat.le_of_ble_eq_true rfl) rfl rfl (by subst hF; exact ⟨rfl, rfl⟩)
  | some m =>
    rw [e1] at hF
    simp only [] at hF
    have hb := hS.2.1
    obtain ⟨ea, hmn, -, -⟩ := b_ix_s (by omega) e1
    have hV := h.V1 hmn
    have hm := J.m4 hV
    have hrow := h.row hmn
    refine bq_aload_n (i := 0) dX5_breakdown_0 rfl ?_
    refine bq_iload_n (i := 1) dX5_breakdown_1 rfl ?_
    refine bt_callVr (c := 5) (i := 0) dX5_breakdown_2 rfl ml_X5_40 (by first | assumption | exact J.v3 | exact J.v4 | exact J.v5 | exact J.v6 | exact J.l0 | exact J.l1 | exact J.l2 | exact J.l3 | exact J.row (by assumption) | exact J.ops (by assumption) | exact J.job (by assumption)) (by decide) (c_kmS J hS e1) (by decide) (by decide) (Nat.le_of_ble_eq_true rfl) rfl ?_
    refine bq_astore (i := 4) dX5_breakdown_5 (by decide) ?_
    refine bq_iload_n (i := 2) dX5_breakdown_7 rfl ?_
    refine bq_if_lt (tgt := 18) dX5_breakdown_8 (by decide) (fun c_8 => ?_) (fun c_8 => ?_)
    · rw [if_pos c_8] at hF
      exact bq_throw dX5_breakdown_18 dX5_breakdown_21 dX5_breakdown_22 dX5_breakdown_24 dX5_breakdown_27 tw_44_58_48 rfl (by decide) (Nat.le_of_ble_eq_true rfl) hroom (by subst hF; exact ⟨rfl, rfl⟩)
    · rw [if_neg c_8] at hF
      refine bq_iload_n (i := 2) dX5_breakdown_11 rfl ?_
      refine bq_sipush (v := (nI 10000)) dX5_breakdown_12 (by decide) ?_
      refine bq_icmp_lt (tgt := 28) dX5_breakdown_15 (by decide) (fun c_15 => ?_) (fun c_15 => ?_)
      · rw [if_pos c_15] at hF
        refine bq_iload_n (i := 3) dX5_breakdown_28 rfl ?_
        refine bq_iload_n (i := 2) dX5_breakdown_29 rfl ?_
        refine bq_icmp_le (tgt := 40) dX5_breakdown_30 (by decide) (fun c_30 => ?_) (fun c_30 => ?_)
        · rw [if_pos c_30] at hF
          exact bq_throw dX5_breakdown_40 dX5_breakdown_43 dX5_breakdown_44 dX5_breakdown_46 dX5_breakdown_49 tw_44_60_48 rfl (by decide) (Nat.le_of_ble_eq_true rfl) hroom (by subst hF; exact ⟨rfl, rfl⟩)
        · rw [if_neg c_30] at hF
          refine bq_iload_n (i := 3) dX5_breakdown_33 rfl ?_
          refine bq_sipush (v := (nI 10000)) dX5_breakdown_34 (by decide) ?_
          refine bq_icmp_le (tgt := 50) dX5_breakdown_37 (by decide) (fun c_37 => ?_) (fun c_37 => ?_)
          · rw [if_pos c_37] at hF
            refine bq_aload (i := 4) dX5_breakdown_50 rfl ?_
            refine bq_iconst (v := (nI 1)) dX5_breakdown_52 (by decide) ?_
            refine bt_put4 dX5_breakdown_53 fl_X5_62 (by first | assumption | exact J.v3 | exact J.v4 | exact J.v5 | exact J.v6 | exact J.l0 | exact J.l1 | exact J.l2 | exact J.l3 | exact J.row (by assumption) | exact J.ops (by assumption) | exact J.job (by assumption)) rfl (by decide) (by first | rfl | decide) (by first | rfl | decide) ?_
            refine bq_aload (i := 4) dX5_breakdown_56 rfl ?_
            refine bq_iload_n (i := 2) dX5_breakdown_58 rfl ?_
            refine bt_put4 dX5_breakdown_59 fl_X5_66 (by first | assumption | exact J.v3 | exact J.v4 | exact J.v5 | exact J.v6 | exact J.l0 | exact J.l1 | exact J.l2 | exact J.l3 | exact J.row (by assumption) | exact J.ops (by assumption) | exact J.job (by assumption)) rfl (by decide) (by first | rfl | decide) (by first | rfl | decide) ?_
            refine bq_aload (i := 4) dX5_breakdown_62 rfl ?_
            refine bq_iload_n (i := 3) dX5_breakdown_64 rfl ?_
            refine bt_put4 dX5_breakdown_65 fl_X5_69 (by first | assumption | exact J.v3 | exact J.v4 | exact J.v5 | exact J.v6 | exact J.l0 | exact J.l1 | exact J.l2 | exact J.l3 | exact J.row (by assumption) | exact J.ops (by assumption) | exact J.job (by assumption)) rfl (by decide) (by first | rfl | decide) (by first | rfl | decide) ?_
            refine bq_aload_n (i := 0) dX5_breakdown_68 rfl ?_
            refine bt_get3 (c' := 4) (n := 0) dX5_breakdown_69 fl_X5_12 (by first | assumption | exact J.v3 | exact J.v4 | exact J.v5 | exact J.v6 | exact J.l0 | exact J.l1 | exact J.l2 | exact J.l3 | exact J.row (by assumption) | exact J.ops (by assumption) | exact J.job (by assumption)) ⟨rfl, rfl, rfl⟩ (by decide) ?_
            refine bt_callVr (c := 4) (i := 0) dX5_breakdown_72 rfl ml_X5_72 (by first | assumption | exact J.v3 | exact J.v4 | exact J.v5 | exact J.v6 | exact J.l0 | exact J.l1 | exact J.l2 | exact J.l3 | exact J.row (by assumption) | exact J.ops (by assumption) | exact J.job (by assumption)) (by decide) (c_all (((J.sg (by decide)).sg (by decide)).sg (by decide)) h.H0) (by decide) (by decide) (Nat.le_of_ble_eq_true rfl) rfl ?_
            refine bq_pop dX5_breakdown_75 rfl ?_
            refine bq_aload_n (i := 0) dX5_breakdown_76 rfl ?_
            refine bt_get3 (c' := 4) (n := 0) dX5_breakdown_77 fl_X5_12 (by first | assumption | exact J.v3 | exact J.v4 | exact J.v5 | exact J.v6 | exact J.l0 | exact J.l1 | exact J.l2 | exact J.l3 | exact J.row (by assumption) | exact J.ops (by assumption) | exact J.job (by assumption)) ⟨rfl, rfl, rfl⟩ (by decide) ?_
            refine bt_get0 dX5_breakdown_80 fl_X5_76 (by first | assumption | exact J.v3 | exact J.v4 | exact J.v5 | exact J.v6 | exact J.l0 | exact J.l1 | exact J.l2 | exact J.l3 | exact J.row (by assumption) | exact J.ops (by assumption) | exact J.job (by assumption)) rfl (by decide) ?_
            exact bq_iret dX5_breakdown_83 rfl (by first | rfl | decide) (by subst hF; exact ⟨rfl, rfl⟩)
          · rw [if_neg c_37] at hF
            exact bq_throw dX5_breakdown_40 dX5_breakdown_43 dX5_breakdown_44 dX5_breakdown_46 dX5_breakdown_49 tw_44_60_48 rfl (by decide) (Nat.le_of_ble_eq_true rfl) hroom (by subst hF; exact ⟨rfl, rfl⟩)
      · rw [if_neg c_15] at hF
        exact bq_throw dX5_breakdown_18 dX5_breakdown_21 dX5_breakdown_22 dX5_breakdown_24 dX5_breakdown_27 tw_44_58_48 rfl (by decide) (Nat.le_of_ble_eq_true rfl) hroom (by subst hF; exact ⟨rfl, rfl⟩)
set_option maxRecDepth 100000 in
set_option maxHeartbeats 400000 in
theorem k_rep {G : bp_X} {α : bt_A} {σ x : bt_X} {a : Int32} (h : b_Ok α σ x) (hroom : bt_us α + 7 ≤ bp_max)  : bq_S G mX5_repair 10 [.ref (bt_ad α 5 0), .int a] (bt α σ x) (b_end α (b_rep σ x a)) := by
  have J := h.J
  have hS := h.S
  obtain ⟨F, hF⟩ : ∃ F, b_rep σ x a = F := ⟨_, rfl⟩
  rw [hF]
  refine bq_ofW (by decide +kernel) rfl (Nat.le_of_ble_eq_true rfl) ?_
  unfold b_rep at hF
  cases e1 : b_ix (b_nm σ) a with
  | none =>
    rw [e1] at hF
    simp only [] at hF
    refine bq_aload_n (i := 0) dX5_repair_0 rfl ?_
    refine bq_iload_n (i := 1) dX5_repair_1 rfl ?_
    exact bt_callVe (c := 5) (i := 0) dX5_repair_2 rfl ml_X5_40 J.v5 (by decide) (c_kmN J e1 hroom) (by decide) (by decide) (Nat.le_of_ble_eq_true rfl) rfl rfl (by subst hF; exact ⟨rfl, rfl⟩)
  | some m =>
    rw [e1] at hF
    simp only [] at hF
    have hb := hS.2.1
    obtain ⟨ea, hmn, -, -⟩ := b_ix_s (by omega) e1
    have hV := h.V1 hmn
    have hm := J.m4 hV
    have hrow := h.row hmn
    refine bq_aload_n (i := 0) dX5_repair_0 rfl ?_
    refine bq_iload_n (i := 1) dX5_repair_1 rfl ?_
    refine bt_callVr (c := 5) (i := 0) dX5_repair_2 rfl ml_X5_40 (by first | assumption | exact J.v3 | exact J.v4 | exact J.v5 | exact J.v6 | exact J.l0 | exact J.l1 | exact J.l2 | exact J.l3 | exact J.row (by assumption) | exact J.ops (by assumption) | exact J.job (by assumption)) (by decide) (c_kmS J hS e1) (by decide) (by decide) (Nat.le_of_ble_eq_true rfl) rfl ?_
    refine bq_astore_n (i := 2) dX5_repair_5 (by decide) ?_
    refine bq_aload_n (i := 2) dX5_repair_6 rfl ?_
    refine bt_get4 dX5_repair_7 fl_X5_62 (by first | assumption | exact J.v3 | exact J.v4 | exact J.v5 | exact J.v6 | exact J.l0 | exact J.l1 | exact J.l2 | exact J.l3 | exact J.row (by assumption) | exact J.ops (by assumption) | exact J.job (by assumption)) rfl (by decide) ?_
    refine bq_istore_n (i := 3) dX5_repair_10 (by decide) ?_
    refine bq_aload_n (i := 2) dX5_repair_11 rfl ?_
    refine bq_iconst (v := (nI 0)) dX5_repair_12 (by decide) ?_
    refine bt_put4 dX5_repair_13 fl_X5_62 (by first | assumption | exact J.v3 | exact J.v4 | exact J.v5 | exact J.v6 | exact J.l0 | exact J.l1 | exact J.l2 | exact J.l3 | exact J.row (by assumption) | exact J.ops (by assumption) | exact J.job (by assumption)) rfl (by decide) (by first | rfl | decide) (by first | rfl | decide) ?_
    refine bq_aload_n (i := 0) dX5_repair_16 rfl ?_
    refine bt_get3 (c' := 4) (n := 0) dX5_repair_17 fl_X5_12 (by first | assumption | exact J.v3 | exact J.v4 | exact J.v5 | exact J.v6 | exact J.l0 | exact J.l1 | exact J.l2 | exact J.l3 | exact J.row (by assumption) | exact J.ops (by assumption) | exact J.job (by assumption)) ⟨rfl, rfl, rfl⟩ (by decide) ?_
    refine bt_callVr (c := 4) (i := 0) dX5_repair_20 rfl ml_X5_72 (by first | assumption | exact J.v3 | exact J.v4 | exact J.v5 | exact J.v6 | exact J.l0 | exact J.l1 | exact J.l2 | exact J.l3 | exact J.row (by assumption) | exact J.ops (by assumption) | exact J.job (by assumption)) (by decide) (c_all (J.sg (by decide)) h.H0) (by decide) (by decide) (Nat.le_of_ble_eq_true rfl) rfl ?_
    refine bq_pop dX5_repair_23 rfl ?_
    refine bq_iload_n (i := 3) dX5_repair_24 rfl ?_
    exact bq_iret dX5_repair_25 rfl (h.2.2.2.2.2.2.2.1 m hmn) (by subst hF; exact ⟨rfl, rfl⟩)
set_option maxRecDepth 100000 in
set_option maxHeartbeats 400000 in
theorem k_set {G : bp_X} {α : bt_A} {σ x : bt_X} {f g t : Int32} (h : b_Ok α σ x) (hroom : bt_us α + 7 ≤ bp_max)  : bq_S G mX5_setSetup 10 [.ref (bt_ad α 5 0), .int f, .int g, .int t] (bt α σ x) (b_end α (b_set σ x f g t)) := by
  have J := h.J
  have hS := h.S
  obtain ⟨F, hF⟩ : ∃ F, b_set σ x f g t = F := ⟨_, rfl⟩
  rw [hF]
  refine bq_ofW (by decide +kernel) rfl (Nat.le_of_ble_eq_true rfl) ?_
  unfold b_set at hF
  refine bq_iload_n (i := 1) dX5_setSetup_0 rfl ?_
  refine bq_if_lt (tgt := 18) dX5_setSetup_1 (by decide) (fun c_1 => ?_) (fun c_1 => ?_)
  · rw [if_pos c_1] at hF
    exact bq_throw dX5_setSetup_18 dX5_setSetup_21 dX5_setSetup_22 dX5_setSetup_24 dX5_setSetup_27 tw_123_125_127 rfl (by decide) (Nat.le_of_ble_eq_true rfl) hroom (by subst hF; exact ⟨rfl, rfl⟩)
  · rw [if_neg c_1] at hF
    refine bq_iload_n (i := 1) dX5_setSetup_4 rfl ?_
    refine bq_iconst (v := (nI 4)) dX5_setSetup_5 (by decide) ?_
    refine bq_icmp_ge (tgt := 18) dX5_setSetup_6 (by decide) (fun c_6 => ?_) (fun c_6 => ?_)
    · rw [if_pos c_6] at hF
      exact bq_throw dX5_setSetup_18 dX5_setSetup_21 dX5_setSetup_22 dX5_setSetup_24 dX5_setSetup_27 tw_123_125_127 rfl (by decide) (Nat.le_of_ble_eq_true rfl) hroom (by subst hF; exact ⟨rfl, rfl⟩)
    · rw [if_neg c_6] at hF
      refine bq_iload_n (i := 2) dX5_setSetup_9 rfl ?_
      refine bq_if_lt (tgt := 18) dX5_setSetup_10 (by decide) (fun c_10 => ?_) (fun c_10 => ?_)
      · rw [if_pos c_10] at hF
        exact bq_throw dX5_setSetup_18 dX5_setSetup_21 dX5_setSetup_22 dX5_setSetup_24 dX5_setSetup_27 tw_123_125_127 rfl (by decide) (Nat.le_of_ble_eq_true rfl) hroom (by subst hF; exact ⟨rfl, rfl⟩)
      · rw [if_neg c_10] at hF
        refine bq_iload_n (i := 2) dX5_setSetup_13 rfl ?_
        refine bq_iconst (v := (nI 4)) dX5_setSetup_14 (by decide) ?_
        refine bq_icmp_lt (tgt := 28) dX5_setSetup_15 (by decide) (fun c_15 => ?_) (fun c_15 => ?_)
        · rw [if_pos c_15] at hF
          obtain ⟨f1, f2⟩ := b_nn c_1 (Int32.not_le.mp c_6) (by decide)
          obtain ⟨o1, o2⟩ := b_nn c_10 c_15 (by decide)
          refine bq_iload_n (i := 3) dX5_setSetup_28 rfl ?_
          refine bq_if_lt (tgt := 38) dX5_setSetup_29 (by decide) (fun c_29 => ?_) (fun c_29 => ?_)
          · rw [if_pos c_29] at hF
            exact bq_throw dX5_setSetup_38 dX5_setSetup_41 dX5_setSetup_42 dX5_setSetup_44 dX5_setSetup_47 tw_44_128_48 rfl (by decide) (Nat.le_of_ble_eq_true rfl) hroom (by subst hF; exact ⟨rfl, rfl⟩)
          · rw [if_neg c_29] at hF
            refine bq_iload_n (i := 3) dX5_setSetup_32 rfl ?_
            refine bq_bipush (v := (nI 60)) dX5_setSetup_33 (by decide) ?_
            refine bq_icmp_le (tgt := 48) dX5_setSetup_35 (by decide) (fun c_35 => ?_) (fun c_35 => ?_)
            · rw [if_pos c_35] at hF
              refine bq_aload_n (i := 0) dX5_setSetup_48 rfl ?_
              refine bt_get3 (c' := 4) (n := 0) dX5_setSetup_49 fl_X5_12 (by first | assumption | exact J.v3 | exact J.v4 | exact J.v5 | exact J.v6 | exact J.l0 | exact J.l1 | exact J.l2 | exact J.l3 | exact J.row (by assumption) | exact J.ops (by assumption) | exact J.job (by assumption)) ⟨rfl, rfl, rfl⟩ (by decide) ?_
              refine bt_get3 (c' := 3) (n := 0) dX5_setSetup_52 fl_X5_130 (by first | assumption | exact J.v3 | exact J.v4 | exact J.v5 | exact J.v6 | exact J.l0 | exact J.l1 | exact J.l2 | exact J.l3 | exact J.row (by assumption) | exact J.ops (by assumption) | exact J.job (by assumption)) ⟨rfl, rfl, rfl⟩ (by decide) ?_
              refine bt_get3 (c' := 8) (n := 0) dX5_setSetup_55 fl_X5_134 (by first | assumption | exact J.v3 | exact J.v4 | exact J.v5 | exact J.v6 | exact J.l0 | exact J.l1 | exact J.l2 | exact J.l3 | exact J.row (by assumption) | exact J.ops (by assumption) | exact J.job (by assumption)) ⟨rfl, rfl, rfl⟩ (by decide) ?_
              refine bq_iload_n (i := 1) dX5_setSetup_58 rfl ?_
              refine bt_aald3 (n := 0) (j := f.toNatClampNeg) (m := 1 + f.toNatClampNeg) dX5_setSetup_59 J.a0 f1 (by exact f2) (by decide) ⟨rfl, rfl⟩ ?_
              refine bq_iload_n (i := 2) dX5_setSetup_60 rfl ?_
              refine bt_iald4 (n := (1 + f.toNatClampNeg)) (j := g.toNatClampNeg) dX5_setSetup_61 (J.am f2) o1 (by exact o2) (by decide) (bt_t_min f2) ?_
              refine bq_istore (i := 4) dX5_setSetup_62 (by decide) ?_
              refine bq_aload_n (i := 0) dX5_setSetup_64 rfl ?_
              refine bt_get3 (c' := 4) (n := 0) dX5_setSetup_65 fl_X5_12 (by first | assumption | exact J.v3 | exact J.v4 | exact J.v5 | exact J.v6 | exact J.l0 | exact J.l1 | exact J.l2 | exact J.l3 | exact J.row (by assumption) | exact J.ops (by assumption) | exact J.job (by assumption)) ⟨rfl, rfl, rfl⟩ (by decide) ?_
              refine bt_get3 (c' := 3) (n := 0) dX5_setSetup_68 fl_X5_130 (by first | assumption | exact J.v3 | exact J.v4 | exact J.v5 | exact J.v6 | exact J.l0 | exact J.l1 | exact J.l2 | exact J.l3 | exact J.row (by assumption) | exact J.ops (by assumption) | exact J.job (by assumption)) ⟨rfl, rfl, rfl⟩ (by decide) ?_
              refine bt_get3 (c' := 8) (n := 0) dX5_setSetup_71 fl_X5_134 (by first | assumption | exact J.v3 | exact J.v4 | exact J.v5 | exact J.v6 | exact J.l0 | exact J.l1 | exact J.l2 | exact J.l3 | exact J.row (by assumption) | exact J.ops (by assumption) | exact J.job (by assumption)) ⟨rfl, rfl, rfl⟩ (by decide) ?_
              refine bq_iload_n (i := 1) dX5_setSetup_74 rfl ?_
              refine bt_aald3 (n := 0) (j := f.toNatClampNeg) (m := 1 + f.toNatClampNeg) dX5_setSetup_75 J.a0 f1 (by exact f2) (by decide) ⟨rfl, rfl⟩ ?_
              refine bq_iload_n (i := 2) dX5_setSetup_76 rfl ?_
              refine bq_iload_n (i := 3) dX5_setSetup_77 rfl ?_
              refine bt_iast4 (n := (1 + f.toNatClampNeg)) (j := g.toNatClampNeg) dX5_setSetup_78 (J.am f2) o1 (by exact o2) (by decide) (bt_t_min f2) ?_
              refine bq_aload_n (i := 0) dX5_setSetup_79 rfl ?_
              refine bt_get3 (c' := 4) (n := 0) dX5_setSetup_80 fl_X5_12 (by first | assumption | exact J.v3 | exact J.v4 | exact J.v5 | exact J.v6 | exact J.l0 | exact J.l1 | exact J.l2 | exact J.l3 | exact J.row (by assumption) | exact J.ops (by assumption) | exact J.job (by assumption)) ⟨rfl, rfl, rfl⟩ (by decide) ?_
              refine bt_callVr (c := 4) (i := 0) dX5_setSetup_83 rfl ml_X5_72 (by first | assumption | exact J.v3 | exact J.v4 | exact J.v5 | exact J.v6 | exact J.l0 | exact J.l1 | exact J.l2 | exact J.l3 | exact J.row (by assumption) | exact J.ops (by assumption) | exact J.job (by assumption)) (by decide) (c_all (J.sg (by decide)) h.H0) (by decide) (by decide) (Nat.le_of_ble_eq_true rfl) rfl ?_
              refine bq_pop dX5_setSetup_86 rfl ?_
              refine bq_iload (i := 4) dX5_setSetup_87 rfl ?_
              exact bq_iret dX5_setSetup_89 rfl (by first | rfl | decide) (by subst hF; exact ⟨rfl, rfl⟩)
            · rw [if_neg c_35] at hF
              exact bq_throw dX5_setSetup_38 dX5_setSetup_41 dX5_setSetup_42 dX5_setSetup_44 dX5_setSetup_47 tw_44_128_48 rfl (by decide) (Nat.le_of_ble_eq_true rfl) hroom (by subst hF; exact ⟨rfl, rfl⟩)
        · rw [if_neg c_15] at hF
          exact bq_throw dX5_setSetup_18 dX5_setSetup_21 dX5_setSetup_22 dX5_setSetup_24 dX5_setSetup_27 tw_123_125_127 rfl (by decide) (Nat.le_of_ble_eq_true rfl) hroom (by subst hF; exact ⟨rfl, rfl⟩)
def b_plcd (σ x : bt_X) (a : Int32) : b_R := match b_ix (b_nm σ) a with
  | none => (.inr b_IO, σ, x)
  | some m => (.inl (some (.int (nI (x.2.2 (4 + m)).length))), σ, x)
def b_plAt (σ x : bt_X) (a p : Int32) : b_R := match b_ix (b_nm σ) a with
  | none => (.inr b_IO, σ, x)
  | some m => if p < 0 then (.inr b_IO, σ, x) else if p < nI (x.2.2 (4 + m)).length then (.inl (some (.int (b_code σ ((x.2.2 (4 + m)).getD p.toNatClampNeg 0)))), σ, x) else (.inr b_IO, σ, x)
def b_sum1 (σ x : bt_X) (a : Int32) : b_R := match b_ix (b_nm σ) a with
  | none => (.inr b_IO, σ, x)
  | some m => (.inl (some (.int (b_sum σ x (x.2.2 (4 + m)) (nI 0)))), σ, x)
def b_load1 (σ x : bt_X) (a : Int32) : b_R := match b_ix (b_nm σ) a with
  | none => (.inr b_IO, σ, x)
  | some m => (.inl (some (.int (b_loads σ x m))), σ, x)
def b_span (σ x : bt_X) : b_R := (.inl (some (.int (x.1 4 0 5))), σ, x)
def b_st (σ x : bt_X) (a b : Int32) : b_R := match b_po σ a b with
  | .inr E => (.inr E, σ, x)
  | .inl i => (.inl (some (.int (x.1 2 i 10))), σ, x)
def b_sbr (σ x : bt_X) (a b : Int32) : b_R := match b_po σ a b with
  | .inr E => (.inr E, σ, x)
  | .inl i => (.inl (some (.int ((b_later σ x).1 2 i 12))), σ, b_later σ x)
def b_slk (σ x : bt_X) (a b : Int32) : b_R := match b_po σ a b with
  | .inr E => (.inr E, σ, x)
  | .inl i => (.inl (some (.int ((b_lat σ x).1 2 i 13 - (b_lat σ x).1 2 i 10))), σ, b_lat σ x)
def b_lateL (x : bt_X) (due : Int32) : List Nat → Int32 → Int32
  | [], l => l
  | i :: os, l => b_lateL x due os (if l < x.1 2 i 11 - due then x.1 2 i 11 - due else l)
def b_late (σ x : bt_X) (a : Int32) : b_R := match b_pj σ a with
  | .inr E => (.inr E, σ, x)
  | .inl j => (.inl (some (.int (b_lateL x (σ.1 0 j 1) (σ.2.2 (8 + j)) (nI 0)))), σ, x)
def b_crit (σ x : bt_X) : b_R := (.inl (some (.int (nI ((b_path σ x).2.2 3).length))), σ, b_path σ x)
def b_crAt (σ x : bt_X) (p : Int32) : b_R :=
  if p < 0 then (.inr b_IO, σ, b_path σ x) else if p < nI ((b_path σ x).2.2 3).length then (.inl (some (.int (b_code σ (((b_path σ x).2.2 3).getD (((b_path σ x).2.2 3).length - 1 - p.toNatClampNeg) 0)))), σ, b_path σ x) else (.inr b_IO, σ, b_path σ x)
theorem b_getD {L : List Nat} {j : Nat} (h : j < L.length) : L[j]? = some (L.getD j 0) := by
  rw [List.getD_eq_getElem?_getD, List.getElem?_eq_getElem h]
  rfl
theorem b_po_V {α : bt_A} {σ x : bt_X} (h : b_Ok α σ x) {a b : Int32} {i : Nat} (e : b_po σ a b = .inl i) : bt_V α 2 i := by
  unfold b_po at e
  have hS := h.S
  have hb := hS.2.2.2.1
  cases e1 : b_ix (b_nj σ) a with
  | none => rw [e1] at e; cases e
  | some j =>
    rw [e1] at e
    simp only [] at e
    have hj := (b_ix_s (by omega) e1).2.1
    have hp := (hS.2.2.2.2 j hj).2
    cases e2 : b_ix (b_np σ j) b with
    | none => rw [e2] at e; cases e
    | some k =>
      rw [e2] at e
      simp only [] at e
      have hk := (b_ix_s (by omega) e2).2.1
      by_cases c : σ.1 0 j 3 = 0
      · rw [if_pos c] at e; cases e
      · rw [if_neg c] at e
        cases e
        refine h.2.2.2.2.2.1 j hj _ ?_
        rw [(hS.2.2.2.2 j hj).1]
        exact List.mem_range'_1.mpr ⟨by omega, by omega⟩
theorem b_pj_n {σ : bt_X} (hS : b_St σ) {a : Int32} {j : Nat} (e : b_pj σ a = .inl j) : j < b_nj σ ∧ ¬ σ.1 0 j 3 = 0 := by
  unfold b_pj at e
  have hb := hS.2.2.2.1
  cases e1 : b_ix (b_nj σ) a with
  | none => rw [e1] at e; cases e
  | some k =>
    rw [e1] at e
    simp only [] at e
    by_cases c : σ.1 0 k 3 = 0
    · rw [if_pos c] at e; cases e
    · rw [if_neg c] at e; cases e; exact ⟨(b_ix_s (by omega) e1).2.1, c⟩
theorem b_wj_n {σ : bt_X} (hS : b_St σ) {a : Int32} {j : Nat} (e : b_wj σ a = .inl j) : j < b_nj σ ∧ σ.1 0 j 3 = 0 ∧ ¬ b_np σ j = 0 := by
  unfold b_wj at e
  have hb := hS.2.2.2.1
  cases e1 : b_ix (b_nj σ) a with
  | none => rw [e1] at e; cases e
  | some k =>
    rw [e1] at e
    simp only [] at e
    by_cases c : σ.1 0 k 3 = 0
    · rw [if_pos c] at e
      by_cases c2 : b_np σ k = 0
      · rw [if_pos c2] at e; cases e
      · rw [if_neg c2] at e; cases e; exact ⟨(b_ix_s (by omega) e1).2.1, c, c2⟩
    · rw [if_neg c] at e; cases e
theorem b_Ok.lens {α : bt_A} {σ x : bt_X} (h : b_Ok α σ x) : ∀ m ∈ σ.2.2 0, (x.2.2 (4 + m)).length ≤ 33 := fun m hm => Nat.le_trans (b_cnt_mem hm) (Nat.le_trans h.2.2.1 (by omega))
theorem b_Ok.opl {α : bt_A} {σ x : bt_X} (h : b_Ok α σ x) : ∀ j ∈ σ.2.2 1, (σ.2.2 (8 + j)).length ≤ 33 := fun j hj => by
  rw [h.S.2.2.1] at hj
  have := (h.S.2.2.2.2 j (List.mem_range.mp hj)).2
  show b_np σ j ≤ 33
  omega
theorem b_Ok.opV {α : bt_A} {σ x : bt_X} (h : b_Ok α σ x) : ∀ j ∈ σ.2.2 1, ∀ i ∈ σ.2.2 (8 + j), bt_V α 2 i := fun j hj => by
  rw [h.S.2.2.1] at hj
  exact h.2.2.2.2.2.1 j (List.mem_range.mp hj)
set_option maxRecDepth 100000 in
set_option maxHeartbeats 400000 in
theorem k_plcd {G : bp_X} {α : bt_A} {σ x : bt_X} {a : Int32} (h : b_Ok α σ x) (hroom : bt_us α + 7 ≤ bp_max)  : bq_S G mX5_placed 7 [.ref (bt_ad α 5 0), .int a] (bt α σ x) (b_end α (b_plcd σ x a)) := by
  have J := h.J
  have hS := h.S
  obtain ⟨F, hF⟩ : ∃ F, b_plcd σ x a = F := ⟨_, rfl⟩
  rw [hF]
  refine bq_ofW (by decide +kernel) rfl (Nat.le_of_ble_eq_true rfl) ?_
  unfold b_plcd at hF
  cases e1 : b_ix (b_nm σ) a with
  | none =>
    rw [e1] at hF
    simp only [] at hF
    refine bq_aload_n (i := 0) dX5_placed_0 rfl ?_
    refine bq_iload_n (i := 1) dX5_placed_1 rfl ?_
    exact bt_callVe (c := 5) (i := 0) dX5_placed_2 rfl ml_X5_40 J.v5 (by decide) (c_kmN J e1 hroom) (by decide) (by decide) (Nat.le_of_ble_eq_true rfl) rfl rfl (by subst hF; exact ⟨rfl, rfl⟩)
  | some m =>
    rw [e1] at hF
    simp only [] at hF
    have hb := hS.2.1
    obtain ⟨ea, hmn, -, -⟩ := b_ix_s (by omega) e1
    have hV := h.V1 hmn
    have hm := J.m4 hV
    have hrow := h.row hmn
    refine bq_aload_n (i := 0) dX5_placed_0 rfl ?_
    refine bq_iload_n (i := 1) dX5_placed_1 rfl ?_
    refine bt_callVr (c := 5) (i := 0) dX5_placed_2 rfl ml_X5_40 (by first | assumption | exact J.v3 | exact J.v4 | exact J.v5 | exact J.v6 | exact J.l0 | exact J.l1 | exact J.l2 | exact J.l3 | exact J.row (by assumption) | exact J.ops (by assumption) | exact J.job (by assumption)) (by decide) (c_kmS J hS e1) (by decide) (by decide) (Nat.le_of_ble_eq_true rfl) rfl ?_
    refine bt_get3 (c' := 7) (n := (4 + m)) dX5_placed_5 fl_X5_153 (by first | assumption | exact J.v3 | exact J.v4 | exact J.v5 | exact J.v6 | exact J.l0 | exact J.l1 | exact J.l2 | exact J.l3 | exact J.row (by assumption) | exact J.ops (by assumption) | exact J.job (by assumption)) ⟨rfl, rfl, rfl⟩ (by decide) ?_
    refine bt_size dX5_placed_8 ml_X5_20 (by first | assumption | exact J.v3 | exact J.v4 | exact J.v5 | exact J.v6 | exact J.l0 | exact J.l1 | exact J.l2 | exact J.l3 | exact J.row (by assumption) | exact J.ops (by assumption) | exact J.job (by assumption)) (bt_lv (bt_sl_row (by assumption))) (by decide) (Nat.le_of_ble_eq_true rfl) ?_
    exact bq_iret dX5_placed_11 rfl (by first | rfl | decide) (by subst hF; exact ⟨rfl, rfl⟩)
set_option maxRecDepth 100000 in
set_option maxHeartbeats 400000 in
theorem k_plAt {G : bp_X} {α : bt_A} {σ x : bt_X} {a p : Int32} (h : b_Ok α σ x) (hroom : bt_us α + 7 ≤ bp_max)  : bq_S G mX5_placedAt 7 [.ref (bt_ad α 5 0), .int a, .int p] (bt α σ x) (b_end α (b_plAt σ x a p)) := by
  have J := h.J
  have hS := h.S
  obtain ⟨F, hF⟩ : ∃ F, b_plAt σ x a p = F := ⟨_, rfl⟩
  rw [hF]
  refine bq_ofW (by decide +kernel) rfl (Nat.le_of_ble_eq_true rfl) ?_
  unfold b_plAt at hF
  cases e1 : b_ix (b_nm σ) a with
  | none =>
    rw [e1] at hF
    simp only [] at hF
    refine bq_aload_n (i := 0) dX5_placedAt_0 rfl ?_
    refine bq_iload_n (i := 1) dX5_placedAt_1 rfl ?_
    exact bt_callVe (c := 5) (i := 0) dX5_placedAt_2 rfl ml_X5_40 J.v5 (by decide) (c_kmN J e1 hroom) (by decide) (by decide) (Nat.le_of_ble_eq_true rfl) rfl rfl (by subst hF; exact ⟨rfl, rfl⟩)
  | some m =>
    rw [e1] at hF
    simp only [] at hF
    have hb := hS.2.1
    obtain ⟨ea, hmn, -, -⟩ := b_ix_s (by omega) e1
    have hV := h.V1 hmn
    have hm := J.m4 hV
    have hrow := h.row hmn
    refine bq_aload_n (i := 0) dX5_placedAt_0 rfl ?_
    refine bq_iload_n (i := 1) dX5_placedAt_1 rfl ?_
    refine bt_callVr (c := 5) (i := 0) dX5_placedAt_2 rfl ml_X5_40 (by first | assumption | exact J.v3 | exact J.v4 | exact J.v5 | exact J.v6 | exact J.l0 | exact J.l1 | exact J.l2 | exact J.l3 | exact J.row (by assumption) | exact J.ops (by assumption) | exact J.job (by assumption)) (by decide) (c_kmS J hS e1) (by decide) (by decide) (Nat.le_of_ble_eq_true rfl) rfl ?_
    refine bq_astore_n (i := 3) dX5_placedAt_5 (by decide) ?_
    refine bq_iload_n (i := 2) dX5_placedAt_6 rfl ?_
    refine bq_if_lt (tgt := 21) dX5_placedAt_7 (by decide) (fun c_7 => ?_) (fun c_7 => ?_)
    · rw [if_pos c_7] at hF
      exact bq_throw dX5_placedAt_21 dX5_placedAt_24 dX5_placedAt_25 dX5_placedAt_27 dX5_placedAt_30 tw_123_179_127 rfl (by decide) (Nat.le_of_ble_eq_true rfl) hroom (by subst hF; exact ⟨rfl, rfl⟩)
    · rw [if_neg c_7] at hF
      refine bq_iload_n (i := 2) dX5_placedAt_10 rfl ?_
      refine bq_aload_n (i := 3) dX5_placedAt_11 rfl ?_
      refine bt_get3 (c' := 7) (n := (4 + m)) dX5_placedAt_12 fl_X5_153 (by first | assumption | exact J.v3 | exact J.v4 | exact J.v5 | exact J.v6 | exact J.l0 | exact J.l1 | exact J.l2 | exact J.l3 | exact J.row (by assumption) | exact J.ops (by assumption) | exact J.job (by assumption)) ⟨rfl, rfl, rfl⟩ (by decide) ?_
      refine bt_size dX5_placedAt_15 ml_X5_20 (by first | assumption | exact J.v3 | exact J.v4 | exact J.v5 | exact J.v6 | exact J.l0 | exact J.l1 | exact J.l2 | exact J.l3 | exact J.row (by assumption) | exact J.ops (by assumption) | exact J.job (by assumption)) (bt_lv (bt_sl_row (by assumption))) (by decide) (Nat.le_of_ble_eq_true rfl) ?_
      refine bq_icmp_lt (tgt := 31) dX5_placedAt_18 (by decide) (fun c_18 => ?_) (fun c_18 => ?_)
      · rw [if_pos (show p < nI (x.2.2 (4 + m)).length from c_18)] at hF
        obtain ⟨p1, p2⟩ := b_nn c_7 (show p < nI (x.2.2 (4 + m)).length from c_18) (by omega)
        refine bq_aload_n (i := 3) dX5_placedAt_31 rfl ?_
        refine bt_get3 (c' := 7) (n := (4 + m)) dX5_placedAt_32 fl_X5_153 (by first | assumption | exact J.v3 | exact J.v4 | exact J.v5 | exact J.v6 | exact J.l0 | exact J.l1 | exact J.l2 | exact J.l3 | exact J.row (by assumption) | exact J.ops (by assumption) | exact J.job (by assumption)) ⟨rfl, rfl, rfl⟩ (by decide) ?_
        refine bq_iload_n (i := 2) dX5_placedAt_35 rfl ?_
        refine bt_geti (j := p.toNatClampNeg) (y := (x.2.2 (4 + m)).getD p.toNatClampNeg 0) (c' := 2) dX5_placedAt_36 ml_X5_143 (by first | assumption | exact J.v3 | exact J.v4 | exact J.v5 | exact J.v6 | exact J.l0 | exact J.l1 | exact J.l2 | exact J.l3 | exact J.row (by assumption) | exact J.ops (by assumption) | exact J.job (by assumption)) (bt_lv (bt_sl_row (by assumption))) p1 (b_getD p2) bt_lc_row (by decide) (Nat.le_of_ble_eq_true rfl) (fun v_36 => ?_)
        refine bt_cast (c := 2) dX5_placedAt_39 rfl cl_X5_147 (by first | assumption | exact J.v3 | exact J.v4 | exact J.v5 | exact J.v6 | exact J.l0 | exact J.l1 | exact J.l2 | exact J.l3 | exact J.row (by assumption) | exact J.ops (by assumption) | exact J.job (by assumption)) (by decide) ?_
        refine bt_callVr (c := 2) (i := (x.2.2 (4 + m)).getD p.toNatClampNeg 0) dX5_placedAt_42 rfl ml_X5_181 (by first | assumption | exact J.v3 | exact J.v4 | exact J.v5 | exact J.v6 | exact J.l0 | exact J.l1 | exact J.l2 | exact J.l3 | exact J.row (by assumption) | exact J.ops (by assumption) | exact J.job (by assumption)) (by decide) (c_code J (by assumption)) (by decide) (by decide) (Nat.le_of_ble_eq_true rfl) rfl ?_
        exact bq_iret dX5_placedAt_45 rfl (by first | rfl | decide) (by subst hF; exact ⟨rfl, rfl⟩)
      · rw [if_neg (show ¬ p < nI (x.2.2 (4 + m)).length from c_18)] at hF
        exact bq_throw dX5_placedAt_21 dX5_placedAt_24 dX5_placedAt_25 dX5_placedAt_27 dX5_placedAt_30 tw_123_179_127 rfl (by decide) (Nat.le_of_ble_eq_true rfl) hroom (by subst hF; exact ⟨rfl, rfl⟩)
set_option maxRecDepth 100000 in
set_option maxHeartbeats 400000 in
theorem k_setups {G : bp_X} {α : bt_A} {σ x : bt_X} {a : Int32} (h : b_Ok α σ x) (hroom : bt_us α + 7 ≤ bp_max)  : bq_S G mX5_setups 7 [.ref (bt_ad α 5 0), .int a] (bt α σ x) (b_end α (b_sum1 σ x a)) := by
  have J := h.J
  have hS := h.S
  obtain ⟨F, hF⟩ : ∃ F, b_sum1 σ x a = F := ⟨_, rfl⟩
  rw [hF]
  refine bq_ofW (by decide +kernel) rfl (Nat.le_of_ble_eq_true rfl) ?_
  unfold b_sum1 at hF
  cases e1 : b_ix (b_nm σ) a with
  | none =>
    rw [e1] at hF
    simp only [] at hF
    refine bq_aload_n (i := 0) dX5_setups_0 rfl ?_
    refine bt_get3 (c' := 4) (n := 0) dX5_setups_1 fl_X5_12 (by first | assumption | exact J.v3 | exact J.v4 | exact J.v5 | exact J.v6 | exact J.l0 | exact J.l1 | exact J.l2 | exact J.l3 | exact J.row (by assumption) | exact J.ops (by assumption) | exact J.job (by assumption)) ⟨rfl, rfl, rfl⟩ (by decide) ?_
    refine bt_get3 (c' := 3) (n := 0) dX5_setups_4 fl_X5_130 (by first | assumption | exact J.v3 | exact J.v4 | exact J.v5 | exact J.v6 | exact J.l0 | exact J.l1 | exact J.l2 | exact J.l3 | exact J.row (by assumption) | exact J.ops (by assumption) | exact J.job (by assumption)) ⟨rfl, rfl, rfl⟩ (by decide) ?_
    refine bq_aload_n (i := 0) dX5_setups_7 rfl ?_
    refine bq_iload_n (i := 1) dX5_setups_8 rfl ?_
    exact bt_callVe (c := 5) (i := 0) dX5_setups_9 rfl ml_X5_40 J.v5 (by decide) (c_kmN J e1 hroom) (by decide) (by decide) (Nat.le_of_ble_eq_true rfl) rfl rfl (by subst hF; exact ⟨rfl, rfl⟩)
  | some m =>
    rw [e1] at hF
    simp only [] at hF
    have hb := hS.2.1
    obtain ⟨ea, hmn, -, -⟩ := b_ix_s (by omega) e1
    have hV := h.V1 hmn
    have hm := J.m4 hV
    have hrow := h.row hmn
    refine bq_aload_n (i := 0) dX5_setups_0 rfl ?_
    refine bt_get3 (c' := 4) (n := 0) dX5_setups_1 fl_X5_12 (by first | assumption | exact J.v3 | exact J.v4 | exact J.v5 | exact J.v6 | exact J.l0 | exact J.l1 | exact J.l2 | exact J.l3 | exact J.row (by assumption) | exact J.ops (by assumption) | exact J.job (by assumption)) ⟨rfl, rfl, rfl⟩ (by decide) ?_
    refine bt_get3 (c' := 3) (n := 0) dX5_setups_4 fl_X5_130 (by first | assumption | exact J.v3 | exact J.v4 | exact J.v5 | exact J.v6 | exact J.l0 | exact J.l1 | exact J.l2 | exact J.l3 | exact J.row (by assumption) | exact J.ops (by assumption) | exact J.job (by assumption)) ⟨rfl, rfl, rfl⟩ (by decide) ?_
    refine bq_aload_n (i := 0) dX5_setups_7 rfl ?_
    refine bq_iload_n (i := 1) dX5_setups_8 rfl ?_
    refine bt_callVr (c := 5) (i := 0) dX5_setups_9 rfl ml_X5_40 (by first | assumption | exact J.v3 | exact J.v4 | exact J.v5 | exact J.v6 | exact J.l0 | exact J.l1 | exact J.l2 | exact J.l3 | exact J.row (by assumption) | exact J.ops (by assumption) | exact J.job (by assumption)) (by decide) (c_kmS J hS e1) (by decide) (by decide) (Nat.le_of_ble_eq_true rfl) rfl ?_
    refine bt_callVr (c := 3) (i := 0) dX5_setups_12 rfl ml_X5_221 (by first | assumption | exact J.v3 | exact J.v4 | exact J.v5 | exact J.v6 | exact J.l0 | exact J.l1 | exact J.l2 | exact J.l3 | exact J.row (by assumption) | exact J.ops (by assumption) | exact J.job (by assumption)) (by decide) (c_sum J hV (by omega)) (by decide) (by decide) (Nat.le_of_ble_eq_true rfl) rfl ?_
    exact bq_iret dX5_setups_15 rfl (by first | rfl | decide) (by subst hF; exact ⟨rfl, rfl⟩)
set_option maxRecDepth 100000 in
set_option maxHeartbeats 400000 in
theorem k_loads {G : bp_X} {α : bt_A} {σ x : bt_X} {a : Int32} (h : b_Ok α σ x) (hroom : bt_us α + 7 ≤ bp_max)  : bq_S G mX5_loads 7 [.ref (bt_ad α 5 0), .int a] (bt α σ x) (b_end α (b_load1 σ x a)) := by
  have J := h.J
  have hS := h.S
  obtain ⟨F, hF⟩ : ∃ F, b_load1 σ x a = F := ⟨_, rfl⟩
  rw [hF]
  refine bq_ofW (by decide +kernel) rfl (Nat.le_of_ble_eq_true rfl) ?_
  unfold b_load1 at hF
  cases e1 : b_ix (b_nm σ) a with
  | none =>
    rw [e1] at hF
    simp only [] at hF
    refine bq_aload_n (i := 0) dX5_loads_0 rfl ?_
    refine bq_iload_n (i := 1) dX5_loads_1 rfl ?_
    exact bt_callVe (c := 5) (i := 0) dX5_loads_2 rfl ml_X5_40 J.v5 (by decide) (c_kmN J e1 hroom) (by decide) (by decide) (Nat.le_of_ble_eq_true rfl) rfl rfl (by subst hF; exact ⟨rfl, rfl⟩)
  | some m =>
    rw [e1] at hF
    simp only [] at hF
    have hb := hS.2.1
    obtain ⟨ea, hmn, -, -⟩ := b_ix_s (by omega) e1
    have hV := h.V1 hmn
    have hm := J.m4 hV
    have hrow := h.row hmn
    refine bq_aload_n (i := 0) dX5_loads_0 rfl ?_
    refine bq_iload_n (i := 1) dX5_loads_1 rfl ?_
    refine bt_callVr (c := 5) (i := 0) dX5_loads_2 rfl ml_X5_40 (by first | assumption | exact J.v3 | exact J.v4 | exact J.v5 | exact J.v6 | exact J.l0 | exact J.l1 | exact J.l2 | exact J.l3 | exact J.row (by assumption) | exact J.ops (by assumption) | exact J.job (by assumption)) (by decide) (c_kmS J hS e1) (by decide) (by decide) (Nat.le_of_ble_eq_true rfl) rfl ?_
    refine bt_callVr (c := 1) (i := m) dX5_loads_5 rfl ml_X5_225 (by first | assumption | exact J.v3 | exact J.v4 | exact J.v5 | exact J.v6 | exact J.l0 | exact J.l1 | exact J.l2 | exact J.l3 | exact J.row (by assumption) | exact J.ops (by assumption) | exact J.job (by assumption)) (by decide) (c_loads J hV (by omega)) (by decide) (by decide) (Nat.le_of_ble_eq_true rfl) rfl ?_
    exact bq_iret dX5_loads_8 rfl (by first | rfl | decide) (by subst hF; exact ⟨rfl, rfl⟩)
set_option maxRecDepth 100000 in
set_option maxHeartbeats 400000 in
theorem k_span {G : bp_X} {α : bt_A} {σ x : bt_X}  (h : b_Ok α σ x) (hroom : bt_us α + 7 ≤ bp_max)  : bq_S G mX5_span 0 [.ref (bt_ad α 5 0)] (bt α σ x) (b_end α (b_span σ x)) := by
  have J := h.J
  have hS := h.S
  obtain ⟨F, hF⟩ : ∃ F, b_span σ x = F := ⟨_, rfl⟩
  rw [hF]
  refine bq_ofW (by decide +kernel) rfl (Nat.le_of_ble_eq_true rfl) ?_
  unfold b_span at hF
  refine bq_aload_n (i := 0) dX5_span_0 rfl ?_
  refine bt_get3 (c' := 4) (n := 0) dX5_span_1 fl_X5_12 (by first | assumption | exact J.v3 | exact J.v4 | exact J.v5 | exact J.v6 | exact J.l0 | exact J.l1 | exact J.l2 | exact J.l3 | exact J.row (by assumption) | exact J.ops (by assumption) | exact J.job (by assumption)) ⟨rfl, rfl, rfl⟩ (by decide) ?_
  refine bt_get0 dX5_span_4 fl_X5_76 (by first | assumption | exact J.v3 | exact J.v4 | exact J.v5 | exact J.v6 | exact J.l0 | exact J.l1 | exact J.l2 | exact J.l3 | exact J.row (by assumption) | exact J.ops (by assumption) | exact J.job (by assumption)) rfl (by decide) ?_
  exact bq_iret dX5_span_7 rfl (by first | rfl | decide) (by subst hF; exact ⟨rfl, rfl⟩)
set_option maxRecDepth 100000 in
set_option maxHeartbeats 400000 in
theorem k_st {G : bp_X} {α : bt_A} {σ x : bt_X} {a b : Int32} (h : b_Ok α σ x) (hroom : bt_us α + 7 ≤ bp_max)  : bq_S G mX5_startOf 8 [.ref (bt_ad α 5 0), .int a, .int b] (bt α σ x) (b_end α (b_st σ x a b)) := by
  have J := h.J
  have hS := h.S
  obtain ⟨F, hF⟩ : ∃ F, b_st σ x a b = F := ⟨_, rfl⟩
  rw [hF]
  refine bq_ofW (by decide +kernel) rfl (Nat.le_of_ble_eq_true rfl) ?_
  unfold b_st at hF
  cases e1 : b_po σ a b with
  | inr E =>
    rw [e1] at hF
    simp only [] at hF
    refine bq_aload_n (i := 0) dX5_startOf_0 rfl ?_
    refine bq_iload_n (i := 1) dX5_startOf_1 rfl ?_
    refine bq_iload_n (i := 2) dX5_startOf_2 rfl ?_
    exact bt_callVe (c := 5) (i := 0) dX5_startOf_3 rfl ml_X5_184 J.v5 (by decide) (c_poN J hS e1 hroom) (by decide) (by decide) (Nat.le_of_ble_eq_true rfl) rfl rfl (by subst hF; exact ⟨rfl, rfl⟩)
  | inl r =>
    rw [e1] at hF
    simp only [] at hF
    have hV := b_po_V h e1
    refine bq_aload_n (i := 0) dX5_startOf_0 rfl ?_
    refine bq_iload_n (i := 1) dX5_startOf_1 rfl ?_
    refine bq_iload_n (i := 2) dX5_startOf_2 rfl ?_
    refine bt_callVr (c := 5) (i := 0) dX5_startOf_3 rfl ml_X5_184 (by first | assumption | exact J.v3 | exact J.v4 | exact J.v5 | exact J.v6 | exact J.l0 | exact J.l1 | exact J.l2 | exact J.l3 | exact J.row (by assumption) | exact J.ops (by assumption) | exact J.job (by assumption)) (by decide) (c_poS J hS e1) (by decide) (by decide) (Nat.le_of_ble_eq_true rfl) rfl ?_
    refine bt_get0 dX5_startOf_6 fl_X5_188 (by first | assumption | exact J.v3 | exact J.v4 | exact J.v5 | exact J.v6 | exact J.l0 | exact J.l1 | exact J.l2 | exact J.l3 | exact J.row (by assumption) | exact J.ops (by assumption) | exact J.job (by assumption)) rfl (by decide) ?_
    exact bq_iret dX5_startOf_9 rfl (by first | rfl | decide) (by subst hF; exact ⟨rfl, rfl⟩)
set_option maxRecDepth 100000 in
set_option maxHeartbeats 400000 in
theorem k_sbr {G : bp_X} {α : bt_A} {σ x : bt_X} {a b : Int32} (h : b_Ok α σ x) (hroom : bt_us α + 7 ≤ bp_max)  : bq_S G mX5_startByRounds 8 [.ref (bt_ad α 5 0), .int a, .int b] (bt α σ x) (b_end α (b_sbr σ x a b)) := by
  have J := h.J
  have hS := h.S
  obtain ⟨F, hF⟩ : ∃ F, b_sbr σ x a b = F := ⟨_, rfl⟩
  rw [hF]
  refine bq_ofW (by decide +kernel) rfl (Nat.le_of_ble_eq_true rfl) ?_
  unfold b_sbr at hF
  cases e1 : b_po σ a b with
  | inr E =>
    rw [e1] at hF
    simp only [] at hF
    refine bq_aload_n (i := 0) dX5_startByRounds_0 rfl ?_
    refine bq_iload_n (i := 1) dX5_startByRounds_1 rfl ?_
    refine bq_iload_n (i := 2) dX5_startByRounds_2 rfl ?_
    exact bt_callVe (c := 5) (i := 0) dX5_startByRounds_3 rfl ml_X5_184 J.v5 (by decide) (c_poN J hS e1 hroom) (by decide) (by decide) (Nat.le_of_ble_eq_true rfl) rfl rfl (by subst hF; exact ⟨rfl, rfl⟩)
  | inl r =>
    rw [e1] at hF
    simp only [] at hF
    have hV := b_po_V h e1
    refine bq_aload_n (i := 0) dX5_startByRounds_0 rfl ?_
    refine bq_iload_n (i := 1) dX5_startByRounds_1 rfl ?_
    refine bq_iload_n (i := 2) dX5_startByRounds_2 rfl ?_
    refine bt_callVr (c := 5) (i := 0) dX5_startByRounds_3 rfl ml_X5_184 (by first | assumption | exact J.v3 | exact J.v4 | exact J.v5 | exact J.v6 | exact J.l0 | exact J.l1 | exact J.l2 | exact J.l3 | exact J.row (by assumption) | exact J.ops (by assumption) | exact J.job (by assumption)) (by decide) (c_poS J hS e1) (by decide) (by decide) (Nat.le_of_ble_eq_true rfl) rfl ?_
    refine bq_astore_n (i := 3) dX5_startByRounds_6 (by decide) ?_
    refine bq_aload_n (i := 0) dX5_startByRounds_7 rfl ?_
    refine bt_get3 (c' := 4) (n := 0) dX5_startByRounds_8 fl_X5_12 (by first | assumption | exact J.v3 | exact J.v4 | exact J.v5 | exact J.v6 | exact J.l0 | exact J.l1 | exact J.l2 | exact J.l3 | exact J.row (by assumption) | exact J.ops (by assumption) | exact J.job (by assumption)) ⟨rfl, rfl, rfl⟩ (by decide) ?_
    refine bt_callVr (c := 4) (i := 0) dX5_startByRounds_11 rfl ml_X5_191 (by first | assumption | exact J.v3 | exact J.v4 | exact J.v5 | exact J.v6 | exact J.l0 | exact J.l1 | exact J.l2 | exact J.l3 | exact J.row (by assumption) | exact J.ops (by assumption) | exact J.job (by assumption)) (by decide) (c_later J hS.2.1 h.lens (Nat.le_trans h.2.2.2.2.2.2.2.2 (by decide))) (by decide) (by decide) (Nat.le_of_ble_eq_true rfl) rfl ?_
    refine bq_aload_n (i := 3) dX5_startByRounds_14 rfl ?_
    refine bt_get0 dX5_startByRounds_15 fl_X5_194 (by first | assumption | exact J.v3 | exact J.v4 | exact J.v5 | exact J.v6 | exact J.l0 | exact J.l1 | exact J.l2 | exact J.l3 | exact J.row (by assumption) | exact J.ops (by assumption) | exact J.job (by assumption)) rfl (by decide) ?_
    exact bq_iret dX5_startByRounds_18 rfl (by first | rfl | decide) (by subst hF; exact ⟨rfl, rfl⟩)
set_option maxRecDepth 100000 in
set_option maxHeartbeats 400000 in
theorem k_slk {G : bp_X} {α : bt_A} {σ x : bt_X} {a b : Int32} (h : b_Ok α σ x) (hroom : bt_us α + 7 ≤ bp_max)  : bq_S G mX5_slack 8 [.ref (bt_ad α 5 0), .int a, .int b] (bt α σ x) (b_end α (b_slk σ x a b)) := by
  have J := h.J
  have hS := h.S
  obtain ⟨F, hF⟩ : ∃ F, b_slk σ x a b = F := ⟨_, rfl⟩
  rw [hF]
  refine bq_ofW (by decide +kernel) rfl (Nat.le_of_ble_eq_true rfl) ?_
  unfold b_slk at hF
  cases e1 : b_po σ a b with
  | inr E =>
    rw [e1] at hF
    simp only [] at hF
    refine bq_aload_n (i := 0) dX5_slack_0 rfl ?_
    refine bq_iload_n (i := 1) dX5_slack_1 rfl ?_
    refine bq_iload_n (i := 2) dX5_slack_2 rfl ?_
    exact bt_callVe (c := 5) (i := 0) dX5_slack_3 rfl ml_X5_184 J.v5 (by decide) (c_poN J hS e1 hroom) (by decide) (by decide) (Nat.le_of_ble_eq_true rfl) rfl rfl (by subst hF; exact ⟨rfl, rfl⟩)
  | inl r =>
    rw [e1] at hF
    simp only [] at hF
    have hV := b_po_V h e1
    refine bq_aload_n (i := 0) dX5_slack_0 rfl ?_
    refine bq_iload_n (i := 1) dX5_slack_1 rfl ?_
    refine bq_iload_n (i := 2) dX5_slack_2 rfl ?_
    refine bt_callVr (c := 5) (i := 0) dX5_slack_3 rfl ml_X5_184 (by first | assumption | exact J.v3 | exact J.v4 | exact J.v5 | exact J.v6 | exact J.l0 | exact J.l1 | exact J.l2 | exact J.l3 | exact J.row (by assumption) | exact J.ops (by assumption) | exact J.job (by assumption)) (by decide) (c_poS J hS e1) (by decide) (by decide) (Nat.le_of_ble_eq_true rfl) rfl ?_
    refine bq_astore_n (i := 3) dX5_slack_6 (by decide) ?_
    refine bq_aload_n (i := 0) dX5_slack_7 rfl ?_
    refine bt_get3 (c' := 4) (n := 0) dX5_slack_8 fl_X5_12 (by first | assumption | exact J.v3 | exact J.v4 | exact J.v5 | exact J.v6 | exact J.l0 | exact J.l1 | exact J.l2 | exact J.l3 | exact J.row (by assumption) | exact J.ops (by assumption) | exact J.job (by assumption)) ⟨rfl, rfl, rfl⟩ (by decide) ?_
    refine bt_callVr (c := 4) (i := 0) dX5_slack_11 rfl ml_X5_209 (by first | assumption | exact J.v3 | exact J.v4 | exact J.v5 | exact J.v6 | exact J.l0 | exact J.l1 | exact J.l2 | exact J.l3 | exact J.row (by assumption) | exact J.ops (by assumption) | exact J.job (by assumption)) (by decide) (c_lat J (Nat.le_trans h.2.2.2.2.2.2.2.2 (by decide))) (by decide) (by decide) (Nat.le_of_ble_eq_true rfl) rfl ?_
    refine bq_aload_n (i := 3) dX5_slack_14 rfl ?_
    refine bt_get0 dX5_slack_15 fl_X5_212 (by first | assumption | exact J.v3 | exact J.v4 | exact J.v5 | exact J.v6 | exact J.l0 | exact J.l1 | exact J.l2 | exact J.l3 | exact J.row (by assumption) | exact J.ops (by assumption) | exact J.job (by assumption)) rfl (by decide) ?_
    refine bq_aload_n (i := 3) dX5_slack_18 rfl ?_
    refine bt_get0 dX5_slack_19 fl_X5_188 (by first | assumption | exact J.v3 | exact J.v4 | exact J.v5 | exact J.v6 | exact J.l0 | exact J.l1 | exact J.l2 | exact J.l3 | exact J.row (by assumption) | exact J.ops (by assumption) | exact J.job (by assumption)) rfl (by decide) ?_
    refine bq_isub dX5_slack_22 ?_
    exact bq_iret dX5_slack_23 rfl (by first | rfl | decide) (by subst hF; exact ⟨rfl, rfl⟩)
set_option maxRecDepth 100000 in
set_option maxHeartbeats 400000 in
theorem c_late_l {G : bp_X} {α : bt_A} {σ x : bt_X} {j : Nat} {r : Int32} (J : bt_J α σ x) (hj : bt_V α 0 j) (hlen : (σ.2.2 (8 + j)).length ≤ 33) (os : List Nat) : ∀ (n : Nat) (l : Int32), n ≤ 33 → (σ.2.2 (8 + j)).drop n = os → b_lateL x (σ.1 0 j 1) os l = r →
    bq_W G mX5_lateness 8 11 [(0, .ref (bt_ad α 5 0)), (2, .ref (bt_ad α 0 j)), (3, .int l), (4, .int (nI n))] [] (bt α σ x) (bq_end (.inl (some (.int r))) (bt α σ x)) := by
  induction os with
  | nil =>
    intro n l hn hd hr
    unfold b_lateL at hr
    subst hr
    refine bq_iload (i := 4) dX5_lateness_11 rfl ?_
    refine bq_aload_n (i := 2) dX5_lateness_13 rfl ?_
    refine bt_get3 (c' := 7) (n := (8 + j)) dX5_lateness_14 fl_X5_101 (by first | assumption | exact J.v3 | exact J.v4 | exact J.v5 | exact J.v6 | exact J.l0 | exact J.l1 | exact J.l2 | exact J.l3 | exact J.row (by assumption) | exact J.ops (by assumption) | exact J.job (by assumption)) ⟨rfl, rfl, rfl⟩ (by decide) ?_
    refine bt_size dX5_lateness_17 ml_X5_20 (by first | assumption | exact J.v3 | exact J.v4 | exact J.v5 | exact J.v6 | exact J.l0 | exact J.l1 | exact J.l2 | exact J.l3 | exact J.row (by assumption) | exact J.ops (by assumption) | exact J.job (by assumption)) (bt_ls bt_sl_ops) (by decide) (Nat.le_of_ble_eq_true rfl) ?_
    refine bq_icmp_ge (tgt := 54) dX5_lateness_20 (by decide) (fun c_20 => ?_) (fun z9_ => absurd (show nI (σ.2.2 (8 + j)).length ≤ nI n from nI_le (b_drop0 hd) (by omega)) z9_)
    refine bq_iload_n (i := 3) dX5_lateness_54 rfl ?_
    exact bq_iret dX5_lateness_55 rfl (by first | rfl | decide) ⟨rfl, rfl⟩
  | cons i os ih =>
    intro n l hn hd hr
    obtain ⟨hi, hd1, hn1⟩ := b_dropc hd
    unfold b_lateL at hr
    refine bq_iload (i := 4) dX5_lateness_11 rfl ?_
    refine bq_aload_n (i := 2) dX5_lateness_13 rfl ?_
    refine bt_get3 (c' := 7) (n := (8 + j)) dX5_lateness_14 fl_X5_101 (by first | assumption | exact J.v3 | exact J.v4 | exact J.v5 | exact J.v6 | exact J.l0 | exact J.l1 | exact J.l2 | exact J.l3 | exact J.row (by assumption) | exact J.ops (by assumption) | exact J.job (by assumption)) ⟨rfl, rfl, rfl⟩ (by decide) ?_
    refine bt_size dX5_lateness_17 ml_X5_20 (by first | assumption | exact J.v3 | exact J.v4 | exact J.v5 | exact J.v6 | exact J.l0 | exact J.l1 | exact J.l2 | exact J.l3 | exact J.row (by assumption) | exact J.ops (by assumption) | exact J.job (by assumption)) (bt_ls bt_sl_ops) (by decide) (Nat.le_of_ble_eq_true rfl) ?_
    refine bq_icmp_ge (tgt := 54) dX5_lateness_20 (by decide) (fun z9_ => absurd z9_ (show ¬ nI (σ.2.2 (8 + j)).length ≤ nI n from nI_ge hn1 (by omega))) (fun c_20 => ?_)
    refine bq_iload_n (i := 3) dX5_lateness_23 rfl ?_
    refine bq_aload_n (i := 2) dX5_lateness_24 rfl ?_
    refine bt_get3 (c' := 7) (n := (8 + j)) dX5_lateness_25 fl_X5_101 (by first | assumption | exact J.v3 | exact J.v4 | exact J.v5 | exact J.v6 | exact J.l0 | exact J.l1 | exact J.l2 | exact J.l3 | exact J.row (by assumption) | exact J.ops (by assumption) | exact J.job (by assumption)) ⟨rfl, rfl, rfl⟩ (by decide) ?_
    refine bq_iload (i := 4) dX5_lateness_28 rfl ?_
    refine bt_geti (j := n) (y := i) (c' := 2) dX5_lateness_30 ml_X5_143 (by first | assumption | exact J.v3 | exact J.v4 | exact J.v5 | exact J.v6 | exact J.l0 | exact J.l1 | exact J.l2 | exact J.l3 | exact J.row (by assumption) | exact J.ops (by assumption) | exact J.job (by assumption)) (bt_ls bt_sl_ops) rfl hi bt_lc_ops (by decide) (Nat.le_of_ble_eq_true rfl) (fun v_30 => ?_)
    refine bt_cast (c := 2) dX5_lateness_33 rfl cl_X5_147 (by first | assumption | exact J.v3 | exact J.v4 | exact J.v5 | exact J.v6 | exact J.l0 | exact J.l1 | exact J.l2 | exact J.l3 | exact J.row (by assumption) | exact J.ops (by assumption) | exact J.job (by assumption)) (by decide) ?_
    refine bt_get0 dX5_lateness_36 fl_X5_197 (by first | assumption | exact J.v3 | exact J.v4 | exact J.v5 | exact J.v6 | exact J.l0 | exact J.l1 | exact J.l2 | exact J.l3 | exact J.row (by assumption) | exact J.ops (by assumption) | exact J.job (by assumption)) rfl (by decide) ?_
    refine bq_aload_n (i := 2) dX5_lateness_39 rfl ?_
    refine bt_get4 dX5_lateness_40 fl_X5_200 (by first | assumption | exact J.v3 | exact J.v4 | exact J.v5 | exact J.v6 | exact J.l0 | exact J.l1 | exact J.l2 | exact J.l3 | exact J.row (by assumption) | exact J.ops (by assumption) | exact J.job (by assumption)) rfl (by decide) ?_
    refine bq_isub dX5_lateness_43 ?_
    refine bq_mmax dX5_lateness_44 ⟨ml_X5_203, mw_max⟩ (by decide) (Nat.le_of_ble_eq_true rfl) ?_
    refine bq_istore_n (i := 3) dX5_lateness_47 (by decide) ?_
    refine bq_iinc dX5_lateness_48 rfl (by decide) (by first | exact bp_inc _ | rfl) ?_
    refine bq_goto (tgt := 11) dX5_lateness_51 (by decide) ?_
    refine bq_lvs (lv' := [(0, .ref (bt_ad α 5 0)), (2, .ref (bt_ad α 0 j)), (3, .int _), (4, .int (nI (n + 1)))]) ⟨rfl, rfl, rfl, rfl, trivial⟩ ?_
    exact ih (n + 1) _ (by omega) hd1 hr
set_option maxRecDepth 100000 in
set_option maxHeartbeats 400000 in
theorem k_late {G : bp_X} {α : bt_A} {σ x : bt_X} {a : Int32} (h : b_Ok α σ x) (hroom : bt_us α + 7 ≤ bp_max)  : bq_S G mX5_lateness 8 [.ref (bt_ad α 5 0), .int a] (bt α σ x) (b_end α (b_late σ x a)) := by
  have J := h.J
  have hS := h.S
  obtain ⟨F, hF⟩ : ∃ F, b_late σ x a = F := ⟨_, rfl⟩
  rw [hF]
  refine bq_ofW (by decide +kernel) rfl (Nat.le_of_ble_eq_true rfl) ?_
  unfold b_late at hF
  cases e1 : b_pj σ a with
  | inr E =>
    rw [e1] at hF
    simp only [] at hF
    refine bq_aload_n (i := 0) dX5_lateness_0 rfl ?_
    refine bq_iload_n (i := 1) dX5_lateness_1 rfl ?_
    exact bt_callVe (c := 5) (i := 0) dX5_lateness_2 rfl ml_X5_164 J.v5 (by decide) (c_pjN J hS e1 hroom) (by decide) (by decide) (Nat.le_of_ble_eq_true rfl) rfl rfl (by subst hF; exact ⟨rfl, rfl⟩)
  | inl r =>
    rw [e1] at hF
    simp only [] at hF
    obtain ⟨hj, hpl⟩ := b_pj_n hS e1
    have hVj := h.V0 hj
    have hp4 := (hS.2.2.2.2 r hj).2
    refine bq_aload_n (i := 0) dX5_lateness_0 rfl ?_
    refine bq_iload_n (i := 1) dX5_lateness_1 rfl ?_
    refine bt_callVr (c := 5) (i := 0) dX5_lateness_2 rfl ml_X5_164 (by first | assumption | exact J.v3 | exact J.v4 | exact J.v5 | exact J.v6 | exact J.l0 | exact J.l1 | exact J.l2 | exact J.l3 | exact J.row (by assumption) | exact J.ops (by assumption) | exact J.job (by assumption)) (by decide) (c_pjS J hS e1) (by decide) (by decide) (Nat.le_of_ble_eq_true rfl) rfl ?_
    refine bq_astore_n (i := 2) dX5_lateness_5 (by decide) ?_
    refine bq_iconst (v := (nI 0)) dX5_lateness_6 (by decide) ?_
    refine bq_istore_n (i := 3) dX5_lateness_7 (by decide) ?_
    refine bq_iconst (v := (nI 0)) dX5_lateness_8 (by decide) ?_
    refine bq_istore (i := 4) dX5_lateness_9 (by decide) ?_
    subst hF
    refine bq_lvs (lv' := [(0, .ref (bt_ad α 5 0)), (2, .ref (bt_ad α 0 r)), (3, .int (nI 0)), (4, .int (nI 0))]) ⟨rfl, rfl, rfl, rfl, trivial⟩ ?_
    exact c_late_l J hVj (show b_np σ r ≤ 33 by omega) _ 0 _ (by omega) rfl rfl
set_option maxRecDepth 100000 in
set_option maxHeartbeats 400000 in
theorem k_crit {G : bp_X} {α : bt_A} {σ x : bt_X}  (h : b_Ok α σ x) (hroom : bt_us α + 7 ≤ bp_max)  : bq_S G mX5_criticals 8 [.ref (bt_ad α 5 0)] (bt α σ x) (b_end α (b_crit σ x)) := by
  have J := h.J
  have hS := h.S
  obtain ⟨F, hF⟩ : ∃ F, b_crit σ x = F := ⟨_, rfl⟩
  rw [hF]
  refine bq_ofW (by decide +kernel) rfl (Nat.le_of_ble_eq_true rfl) ?_
  unfold b_crit at hF
  refine bq_aload_n (i := 0) dX5_criticals_0 rfl ?_
  refine bt_get3 (c' := 4) (n := 0) dX5_criticals_1 fl_X5_12 (by first | assumption | exact J.v3 | exact J.v4 | exact J.v5 | exact J.v6 | exact J.l0 | exact J.l1 | exact J.l2 | exact J.l3 | exact J.row (by assumption) | exact J.ops (by assumption) | exact J.job (by assumption)) ⟨rfl, rfl, rfl⟩ (by decide) ?_
  refine bt_callVr (c := 4) (i := 0) dX5_criticals_4 rfl ml_X5_215 (by first | assumption | exact J.v3 | exact J.v4 | exact J.v5 | exact J.v6 | exact J.l0 | exact J.l1 | exact J.l2 | exact J.l3 | exact J.row (by assumption) | exact J.ops (by assumption) | exact J.job (by assumption)) (by decide) (c_path J hS.2.2.2.1 h.opl h.opV) (by decide) (by decide) (Nat.le_of_ble_eq_true rfl) rfl ?_
  refine bq_aload_n (i := 0) dX5_criticals_7 rfl ?_
  refine bt_get3 (c' := 4) (n := 0) dX5_criticals_8 fl_X5_12 (by first | assumption | exact J.v3 | exact J.v4 | exact J.v5 | exact J.v6 | exact J.l0 | exact J.l1 | exact J.l2 | exact J.l3 | exact J.row (by assumption) | exact J.ops (by assumption) | exact J.job (by assumption)) ⟨rfl, rfl, rfl⟩ (by decide) ?_
  refine bt_get3 (c' := 7) (n := 3) dX5_criticals_11 fl_X5_218 (by first | assumption | exact J.v3 | exact J.v4 | exact J.v5 | exact J.v6 | exact J.l0 | exact J.l1 | exact J.l2 | exact J.l3 | exact J.row (by assumption) | exact J.ops (by assumption) | exact J.job (by assumption)) ⟨rfl, rfl, rfl⟩ (by decide) ?_
  refine bt_size dX5_criticals_14 ml_X5_20 (by first | assumption | exact J.v3 | exact J.v4 | exact J.v5 | exact J.v6 | exact J.l0 | exact J.l1 | exact J.l2 | exact J.l3 | exact J.row (by assumption) | exact J.ops (by assumption) | exact J.job (by assumption)) rfl (by decide) (Nat.le_of_ble_eq_true rfl) ?_
  exact bq_iret dX5_criticals_17 rfl (by first | rfl | decide) (by subst hF; exact ⟨rfl, rfl⟩)
theorem b_path_J {α : bt_A} {σ x : bt_X} (J : bt_J α σ x) : bt_J α σ (b_path σ x) ∧ ((b_path σ x).2.2 3).length ≤ 32 := by
  obtain ⟨h1, h2, h3, h4⟩ := b_path_fr (σ := σ) 32 (bt_lp x 3 []) (b_lastJ σ x (σ.2.2 1))
  refine ⟨J.any h2, ?_⟩
  rw [bt_lp_at] at h4
  exact Nat.le_trans h4 (Nat.le_of_eq (Nat.zero_add _))
theorem b_sub1 {n k : Nat} (h : k < n) : nI n - nI 1 - nI k = nI (n - 1 - k) := by rw [pk_sub (by omega), pk_sub (by omega)]
set_option maxRecDepth 100000 in
set_option maxHeartbeats 400000 in
theorem k_crAt {G : bp_X} {α : bt_A} {σ x : bt_X} {p : Int32} (h : b_Ok α σ x) (hroom : bt_us α + 7 ≤ bp_max)  : bq_S G mX5_criticalAt 8 [.ref (bt_ad α 5 0), .int p] (bt α σ x) (b_end α (b_crAt σ x p)) := by
  have J := h.J
  have hS := h.S
  obtain ⟨F, hF⟩ : ∃ F, b_crAt σ x p = F := ⟨_, rfl⟩
  rw [hF]
  refine bq_ofW (by decide +kernel) rfl (Nat.le_of_ble_eq_true rfl) ?_
  unfold b_crAt at hF
  refine bq_aload_n (i := 0) dX5_criticalAt_0 rfl ?_
  refine bt_get3 (c' := 4) (n := 0) dX5_criticalAt_1 fl_X5_12 (by first | assumption | exact J.v3 | exact J.v4 | exact J.v5 | exact J.v6 | exact J.l0 | exact J.l1 | exact J.l2 | exact J.l3 | exact J.row (by assumption) | exact J.ops (by assumption) | exact J.job (by assumption)) ⟨rfl, rfl, rfl⟩ (by decide) ?_
  refine bt_callVr (c := 4) (i := 0) dX5_criticalAt_4 rfl ml_X5_215 (by first | assumption | exact J.v3 | exact J.v4 | exact J.v5 | exact J.v6 | exact J.l0 | exact J.l1 | exact J.l2 | exact J.l3 | exact J.row (by assumption) | exact J.ops (by assumption) | exact J.job (by assumption)) (by decide) (c_path J hS.2.2.2.1 h.opl h.opV) (by decide) (by decide) (Nat.le_of_ble_eq_true rfl) rfl ?_
  obtain ⟨Jp, hpl⟩ := b_path_J J
  refine bq_iload_n (i := 1) dX5_criticalAt_7 rfl ?_
  refine bq_if_lt (tgt := 25) dX5_criticalAt_8 (by decide) (fun c_8 => ?_) (fun c_8 => ?_)
  · rw [if_pos c_8] at hF
    exact bq_throw dX5_criticalAt_25 dX5_criticalAt_28 dX5_criticalAt_29 dX5_criticalAt_31 dX5_criticalAt_34 tw_123_179_127 rfl (by decide) (Nat.le_of_ble_eq_true rfl) hroom (by subst hF; exact ⟨rfl, rfl⟩)
  · rw [if_neg c_8] at hF
    refine bq_iload_n (i := 1) dX5_criticalAt_11 rfl ?_
    refine bq_aload_n (i := 0) dX5_criticalAt_12 rfl ?_
    refine bt_get3 (c' := 4) (n := 0) dX5_criticalAt_13 fl_X5_12 (by first | assumption | exact J.v3 | exact J.v4 | exact J.v5 | exact J.v6 | exact J.l0 | exact J.l1 | exact J.l2 | exact J.l3 | exact J.row (by assumption) | exact J.ops (by assumption) | exact J.job (by assumption)) ⟨rfl, rfl, rfl⟩ (by decide) ?_
    refine bt_get3 (c' := 7) (n := 3) dX5_criticalAt_16 fl_X5_218 (by first | assumption | exact J.v3 | exact J.v4 | exact J.v5 | exact J.v6 | exact J.l0 | exact J.l1 | exact J.l2 | exact J.l3 | exact J.row (by assumption) | exact J.ops (by assumption) | exact J.job (by assumption)) ⟨rfl, rfl, rfl⟩ (by decide) ?_
    refine bt_size dX5_criticalAt_19 ml_X5_20 (by first | assumption | exact J.v3 | exact J.v4 | exact J.v5 | exact J.v6 | exact J.l0 | exact J.l1 | exact J.l2 | exact J.l3 | exact J.row (by assumption) | exact J.ops (by assumption) | exact J.job (by assumption)) rfl (by decide) (Nat.le_of_ble_eq_true rfl) ?_
    refine bq_icmp_lt (tgt := 35) dX5_criticalAt_22 (by decide) (fun c_22 => ?_) (fun c_22 => ?_)
    · rw [if_pos (show p < nI ((b_path σ x).2.2 3).length from c_22)] at hF
      obtain ⟨p1, p2⟩ := b_nn c_8 (show p < nI ((b_path σ x).2.2 3).length from c_22) (by omega)
      refine bq_aload_n (i := 0) dX5_criticalAt_35 rfl ?_
      refine bt_get3 (c' := 4) (n := 0) dX5_criticalAt_36 fl_X5_12 (by first | assumption | exact J.v3 | exact J.v4 | exact J.v5 | exact J.v6 | exact J.l0 | exact J.l1 | exact J.l2 | exact J.l3 | exact J.row (by assumption) | exact J.ops (by assumption) | exact J.job (by assumption)) ⟨rfl, rfl, rfl⟩ (by decide) ?_
      refine bt_get3 (c' := 7) (n := 3) dX5_criticalAt_39 fl_X5_218 (by first | assumption | exact J.v3 | exact J.v4 | exact J.v5 | exact J.v6 | exact J.l0 | exact J.l1 | exact J.l2 | exact J.l3 | exact J.row (by assumption) | exact J.ops (by assumption) | exact J.job (by assumption)) ⟨rfl, rfl, rfl⟩ (by decide) ?_
      refine bq_aload_n (i := 0) dX5_criticalAt_42 rfl ?_
      refine bt_get3 (c' := 4) (n := 0) dX5_criticalAt_43 fl_X5_12 (by first | assumption | exact J.v3 | exact J.v4 | exact J.v5 | exact J.v6 | exact J.l0 | exact J.l1 | exact J.l2 | exact J.l3 | exact J.row (by assumption) | exact J.ops (by assumption) | exact J.job (by assumption)) ⟨rfl, rfl, rfl⟩ (by decide) ?_
      refine bt_get3 (c' := 7) (n := 3) dX5_criticalAt_46 fl_X5_218 (by first | assumption | exact J.v3 | exact J.v4 | exact J.v5 | exact J.v6 | exact J.l0 | exact J.l1 | exact J.l2 | exact J.l3 | exact J.row (by assumption) | exact J.ops (by assumption) | exact J.job (by assumption)) ⟨rfl, rfl, rfl⟩ (by decide) ?_
      refine bt_size dX5_criticalAt_49 ml_X5_20 (by first | assumption | exact J.v3 | exact J.v4 | exact J.v5 | exact J.v6 | exact J.l0 | exact J.l1 | exact J.l2 | exact J.l3 | exact J.row (by assumption) | exact J.ops (by assumption) | exact J.job (by assumption)) rfl (by decide) (Nat.le_of_ble_eq_true rfl) ?_
      refine bq_iconst (v := (nI 1)) dX5_criticalAt_52 (by decide) ?_
      refine bq_isub dX5_criticalAt_53 ?_
      refine bq_iload_n (i := 1) dX5_criticalAt_54 rfl ?_
      refine bq_isub dX5_criticalAt_55 ?_
      refine bt_geti (j := ((b_path σ x).2.2 3).length - 1 - p.toNatClampNeg) (y := ((b_path σ x).2.2 3).getD (((b_path σ x).2.2 3).length - 1 - p.toNatClampNeg) 0) (c' := 2) dX5_criticalAt_56 ml_X5_143 (by first | assumption | exact J.v3 | exact J.v4 | exact J.v5 | exact J.v6 | exact J.l0 | exact J.l1 | exact J.l2 | exact J.l3 | exact J.row (by assumption) | exact J.ops (by assumption) | exact J.job (by assumption)) (bt_lv rfl) ((congrArg (fun z => nI ((b_path σ x).2.2 3).length - nI 1 - z) p1).trans (b_sub1 p2)) (b_getD (by omega)) rfl (by decide) (Nat.le_of_ble_eq_true rfl) (fun v_56 => ?_)
      refine bt_cast (c := 2) dX5_criticalAt_59 rfl cl_X5_147 (by first | assumption | exact J.v3 | exact J.v4 | exact J.v5 | exact J.v6 | exact J.l0 | exact J.l1 | exact J.l2 | exact J.l3 | exact J.row (by assumption) | exact J.ops (by assumption) | exact J.job (by assumption)) (by decide) ?_
      refine bt_callVr (c := 2) (i := ((b_path σ x).2.2 3).getD (((b_path σ x).2.2 3).length - 1 - p.toNatClampNeg) 0) dX5_criticalAt_62 rfl ml_X5_181 (by first | assumption | exact J.v3 | exact J.v4 | exact J.v5 | exact J.v6 | exact J.l0 | exact J.l1 | exact J.l2 | exact J.l3 | exact J.row (by assumption) | exact J.ops (by assumption) | exact J.job (by assumption)) (by decide) (c_code Jp (by assumption)) (by decide) (by decide) (Nat.le_of_ble_eq_true rfl) rfl ?_
      exact bq_iret dX5_criticalAt_65 rfl (by first | rfl | decide) (by subst hF; exact ⟨rfl, rfl⟩)
    · rw [if_neg (show ¬ p < nI ((b_path σ x).2.2 3).length from c_22)] at hF
      exact bq_throw dX5_criticalAt_25 dX5_criticalAt_28 dX5_criticalAt_29 dX5_criticalAt_31 dX5_criticalAt_34 tw_123_179_127 rfl (by decide) (Nat.le_of_ble_eq_true rfl) hroom (by subst hF; exact ⟨rfl, rfl⟩)

