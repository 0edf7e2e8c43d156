/-! ===== this law: what stands between its turns; the class's calls beside the ghost ===== -/
section UB
variable {α α' : bt_A} {σ σ' σ1 σ2 x x' x1 x2 w : bt_X}
/-- what stands: the shop and its parts, the law's own arrays (35 many, 36 placed, 37 due, 38 length, 39 seen), no reference -/
def z_V (α : bt_A) (σ : bt_X) : Prop :=
  (bt_V α 3 0 ∧ bt_V α 4 0 ∧ bt_V α 5 0 ∧ bt_V α 7 0 ∧ bt_V α 7 1 ∧ bt_V α 7 2 ∧ bt_V α 7 3) ∧
  (∀ n : Nat, n < 5 → bt_V α 8 n ∧ bt_at α n = bt_arl n) ∧ (∀ m, bt_V α 1 m ↔ m < b_nm σ) ∧ (∀ j, bt_V α 0 j ↔ j < b_nj σ) ∧ (∀ i, bt_V α 2 i ↔ v_op σ i) ∧
  (∀ n, bt_V α 7 n ↔ (n < 4 ∨ (4 ≤ n ∧ n < 4 + b_nm σ) ∨ (8 ≤ n ∧ n < 8 + b_nj σ))) ∧
  ((bt_V α 8 35 ∧ bt_at α 35 = (0, 8)) ∧ (bt_V α 8 36 ∧ bt_at α 36 = (0, 8)) ∧ (bt_V α 8 37 ∧ bt_at α 37 = (0, 8)) ∧ (bt_V α 8 38 ∧ bt_at α 38 = (0, 32)) ∧ (bt_V α 8 39 ∧ bt_at α 39 = (0, 32))) ∧
  ((∀ i, ¬ bt_V α 6 i) ∧ ∀ n, bt_V α 8 n → n < 5 ∨ (35 ≤ n ∧ n < 40))
theorem z_V.v5 (h : z_V α σ) : bt_V α 5 0 := h.1.2.2.1
theorem z_V.a35 (h : z_V α σ) : bt_V α 8 35 ∧ bt_at α 35 = (0, 8) := h.2.2.2.2.2.2.1.1
theorem z_V.a36 (h : z_V α σ) : bt_V α 8 36 ∧ bt_at α 36 = (0, 8) := h.2.2.2.2.2.2.1.2.1
theorem z_V.a37 (h : z_V α σ) : bt_V α 8 37 ∧ bt_at α 37 = (0, 8) := h.2.2.2.2.2.2.1.2.2.1
theorem z_V.a38 (h : z_V α σ) : bt_V α 8 38 ∧ bt_at α 38 = (0, 32) := h.2.2.2.2.2.2.1.2.2.2.1
theorem z_V.a39 (h : z_V α σ) : bt_V α 8 39 ∧ bt_at α 39 = (0, 32) := h.2.2.2.2.2.2.1.2.2.2.2
theorem z_V.gh (h : z_V α σ) : (∀ i, ¬ bt_V α 6 i) ∧ ∀ n, bt_V α 8 n → n < 5 ∨ (35 ≤ n ∧ n < 40) := h.2.2.2.2.2.2.2
theorem z_V.lists (h : z_V α σ) (e : σ'.2.2 = σ.2.2) : z_V α σ' := by
  unfold z_V v_op b_nm b_nj b_np at h ⊢
  rw [e]
  exact h
theorem z_V.v7 (h : z_V α σ) : m_V7 α σ := by
  refine ⟨fun n hn => (h.2.2.2.2.2.1 n).mp hn, fun i hi => ?_⟩
  have := (h.2.2.2.2.1 i).mp hi
  exact ⟨i / 4, i % 4, this.1, this.2, by omega⟩
theorem z_V.ok (h : z_V α σ) (hI : v_Inv σ x) : b_Ok α σ x := by
  obtain ⟨k1, k2, k3, k4, k5, k6, k7, k8⟩ := h
  obtain ⟨hSo, hS⟩ := v_Sx hI
  obtain ⟨⟨⟨a1, a2, a3, a4, a5, a6⟩, b1, b2, b3, b4, b5⟩, -⟩ := hI
  refine ⟨⟨k1, k2, fun m hm => ?_, fun j hj => ?_, fun o ho => ?_, fun o ho => ?_⟩, a1, b1.2.2.2, k3, k4, fun j hj i hi => ?_, fun m hm i hi => ?_, fun m hm => ?_, hSo.2.2.2.2.1⟩
  · have := (k3 m).mp hm
    have := a1.2.1
    exact ⟨by omega, (k6 _).mpr (by omega)⟩
  · have := (k4 j).mp hj
    exact (k6 _).mpr (by omega)
  · have hop := (k5 o).mp ho
    obtain ⟨⟨m, g1, g2⟩, g3, g4, g5, g6, -⟩ := a2 o hop
    refine ⟨(k4 _).mpr hop.1, ⟨m, g1, (k3 m).mpr g2⟩, g3, fun a ha => ?_, fun a ha => ?_⟩
    · rw [g5] at ha
      split at ha
      · cases ha
      · cases ha
        refine (k5 _).mpr ⟨by have := hop.1; omega, ?_⟩
        have := hop.2
        rw [show (o - 1) / 4 = o / 4 by omega]
        omega
    · rw [g6] at ha
      split at ha
      · rename_i c
        cases ha
        have hp4 := (a1.2.2.2.2 _ hop.1).2
        refine (k5 _).mpr ⟨by have := hop.1; omega, ?_⟩
        rw [show (o + 1) / 4 = o / 4 by omega]
        omega
      · cases ha
  · obtain ⟨g1, g2⟩ := b2 o ((k5 o).mp ho)
    exact ⟨fun a ha => (k5 a).mpr (g1 a ha), fun a ha => (k5 a).mpr (g2 a ha)⟩
  · obtain ⟨g1, g2⟩ := a1.2.2.2.2 j hj
    rw [g1, List.mem_range'_1] at hi
    exact (k5 i).mpr ⟨by omega, by rw [show i / 4 = j by omega]; omega⟩
  · exact (k5 i).mpr ((b1.1 m hm).2 i hi).1
  · rcases (a3 m hm).1 with e | e <;> rw [e] <;> decide
/-! the ghost: numbers of the reference beside the class's; they stand nowhere in the heap -/
def u_pS (u r : bt_X) : bt_X := (fun c i k => if c = 6 ∨ (c = 8 ∧ 10 ≤ i) then r.1 c i k else u.1 c i k, u.2)
def u_pX (u r : bt_X) : bt_X := (fun c i k => if c = 6 ∨ (c = 8 ∧ 10 ≤ i ∧ i < 35) then r.1 c i k else u.1 c i k, u.2)
theorem u_pS_g {u r : bt_X} {c i k : Nat} (h : c = 6 ∨ (c = 8 ∧ 10 ≤ i)) : (u_pS u r).1 c i k = r.1 c i k := if_pos h
theorem u_pS_u {u r : bt_X} {c i k : Nat} (h : ¬ (c = 6 ∨ (c = 8 ∧ 10 ≤ i))) : (u_pS u r).1 c i k = u.1 c i k := if_neg h
theorem u_pX_g {u r : bt_X} {c i k : Nat} (h : c = 6 ∨ (c = 8 ∧ 10 ≤ i ∧ i < 35)) : (u_pX u r).1 c i k = r.1 c i k := if_pos h
theorem u_pX_u {u r : bt_X} {c i k : Nat} (h : ¬ (c = 6 ∨ (c = 8 ∧ 10 ≤ i ∧ i < 35))) : (u_pX u r).1 c i k = u.1 c i k := if_neg h
/-- contents that differ only where nothing stands -/
theorem u_gh (g : (∀ i, ¬ bt_V α 6 i) ∧ ∀ n, bt_V α 8 n → n < 5 ∨ (35 ≤ n ∧ n < 40)) (s2 : σ'.2 = σ.2) (s1 : ∀ c i k, (c < 6 ∨ (c = 8 ∧ i < 5)) → σ'.1 c i k = σ.1 c i k) (x2 : x'.2 = x.2)
    (x1 : ∀ c i k, (c < 6 ∨ (c = 8 ∧ (i < 5 ∨ 35 ≤ i))) → x'.1 c i k = x.1 c i k) {G : bp_X} {h : bp_H} (H : bq_H G h (bt α σ x)) : bq_H G h (bt α σ' x') := by
  have el : bt_l σ' x' = bt_l σ x := by
    funext n
    unfold bt_l
    rw [s2, x2]
  have ev : ∀ c i k, bt_V α c i → (c < 7 ∨ c = 8) → bt_v α σ' x' c i k = bt_v α σ x c i k := fun c i k hV hc => by
    by_cases c6 : c = 6
    · subst c6; exact absurd hV (g.1 i)
    by_cases c8 : c = 8
    · subst c8
      rcases g.2 i hV with q | q
      · unfold bt_v
        rw [s2, x2, s1 8 i k (Or.inr ⟨rfl, q⟩), x1 8 i k (Or.inr ⟨rfl, Or.inl q⟩)]
      · have e : bt_t 8 i k = 0 := by
          show (if i = 0 then 3 else if i = 5 then 1 else if i < 5 then 4 else if i = 15 ∨ i = 16 ∨ 26 ≤ i then 0 else 4) = 0
          rw [if_neg (by omega), if_neg (by omega), if_neg (by omega), if_pos (by omega)]
        unfold bt_v
        rw [if_pos e, if_pos e, x1 8 i k (Or.inr ⟨rfl, Or.inr q.1⟩)]
    · unfold bt_v
      rw [s2, x2, s1 c i k (Or.inl (by omega)), x1 c i k (Or.inl (by omega))]
  obtain ⟨cp, o1, o2, o3, o4, o5⟩ := H
  refine ⟨cp, fun c i hV hc => ⟨(o1 c i hV hc).1, fun k hk => ((o1 c i hV hc).2 k hk).trans (ev c i k hV (Or.inl hc)).symm⟩, fun n hV => ?_, fun n hV => ⟨(o3 n hV).1, fun j hj => ((o3 n hV).2 j hj).trans (ev 8 n j hV (Or.inr rfl)).symm⟩, o4, o5⟩
  have := o2 n hV
  show n < 16 ∧ bp_L G h (bt_ad α 7 n) ((bt_l σ' x' n).map (bt_ad α (bq_lc n))) (cp n) ∧ ∀ y ∈ bt_l σ' x' n, bt_V α (bq_lc n) y
  rw [el]
  exact this
/-- from one pair of contents to another -/
def u_go (G : bp_X) (α : bt_A) (σ1 x1 σ2 x2 : bt_X) : Prop := ∀ (M : bp_M) (d pc : Nat) (lv : List (Nat × Value)) (st : List Value) (Φ : bp_O → bq_O → Prop), bq_W G M d pc lv st (bt α σ2 x2) Φ → bq_W G M d pc lv st (bt α σ1 x1) Φ
theorem u_go.rf {G : bp_X} : u_go G α σ x σ x := fun _ _ _ _ _ _ k => k
theorem u_go_p {G : bp_X} (hV : z_V α σ) {r s : bt_X} : u_go G α σ1 x1 (u_pS σ1 r) (u_pX x1 s) := fun _ _ _ _ _ _ k h hH => k h (u_gh (σ := σ1) (σ' := u_pS σ1 r) (x := x1) (x' := u_pX x1 s) hV.gh rfl (fun _ _ _ hc => u_pS_u (by omega)) rfl (fun _ _ _ hc => u_pX_u (by omega)) hH)
theorem v_Rs.cg (h : v_Rs σ) (hA : v_cA σ σ') (hr : v_rA σ σ') : v_Rs σ' := by
  obtain ⟨r1, r2, r3, r4, r5, r6, r7⟩ := h
  refine ⟨?_, ?_, fun j hj => ?_, fun i hi => ?_, fun m hm => ?_, fun f g hf hg => ?_, fun j hj => ?_⟩
  · rw [hA.nm, ← r1]; unfold m_nm; rw [hr 6 0 1 (by omega)]
  · rw [hA.nj, ← r2]; unfold m_nj; rw [hr 6 0 7 (by omega)]
  · rw [hA.nj, hA.np, ← r3 j hj]; unfold m_np; rw [hr 8 19 j (by omega)]
  · have g := r4 i (hA.op.mp hi)
    unfold m_mc m_fm at g ⊢
    rw [hA.m, hA.fn, hr 8 21 i (by omega), hr 8 22 i (by omega), hr 8 23 i (by omega), hr 8 24 i (by omega), hA.2 2 i 3 (by omega), hA.2 2 i 5 (by omega)]
    exact g
  · have g := r5 m (by rw [← hA.nm]; exact hm)
    rw [hr 8 12 m (by omega), hr 8 13 m (by omega), hr 8 14 m (by omega), hA.2 1 m 1 (by omega), hA.2 1 m 3 (by omega), hA.2 1 m 4 (by omega), hA.2 1 m 5 (by omega)]
    exact g
  · have g9 := r6 f g hf hg
    unfold m_su at g9 ⊢
    rw [hr 8 25 _ (by omega), hA.2 8 (1 + f) g (by omega)]
    exact g9
  · have g := r7 j (by rw [← hA.nj]; exact hj)
    rw [hr 8 18 j (by omega), hr 8 20 j (by omega), hA.2 0 j 1 (by omega), hA.2 0 j 3 (by omega)]
    exact g
/-- what holds between calls needs the class's numbers and the ghost's alone -/
theorem v_Inv.cg (h : v_Inv σ x) (hA : v_cA σ σ') (hr : v_rA σ σ') (hX : v_cX x x') (h15 : ∀ i k, i = 15 ∨ i = 16 → x'.1 8 i k = x.1 8 i k) : v_Inv σ' x' := by
  refine ⟨h.1.congr hA hX, h.2.1.congr hr hA.nm hA.nj, h.2.2.1.cg hA hr, ?_⟩
  have := h.2.2.2.ext (fun m _ => hX.2.1 _ (by omega)) h15
  unfold v_Rd at this ⊢
  rw [hA.nm]
  exact this
/-- what the reference's answer leaves of the class's -/
def u_Fr (σ w : bt_X) (R : m_Rt) : Prop := v_cA σ R.2.1 ∧ v_cX w R.2.2
theorem u_Inv_p {R : m_Rt} (hI : v_Inv R.2.1 R.2.2) (hF : u_Fr σ1 x1 R) : v_Inv (u_pS σ1 R.2.1) (u_pX x1 R.2.2) := by
  obtain ⟨f1, f2⟩ := hF
  refine hI.cg ⟨f1.1.symm, fun c i k hc => (u_pS_u (by omega)).trans (f1.2 c i k hc).symm⟩ (fun c i k hc => u_pS_g hc) ⟨f2.1.symm, fun n hn => (f2.2.1 n hn).symm, fun c i k hc hk => (u_pX_u (by omega)).trans (f2.2.2 c i k hc hk).symm⟩ (fun i k hi => u_pX_g (by omega))
theorem v_cA.trans (h : v_cA σ σ') (g : v_cA σ' σ2) : v_cA σ σ2 := ⟨g.1.trans h.1, fun c i k hc => (g.2 c i k hc).trans (h.2 c i k hc)⟩
theorem v_cA_gs {c i k : Nat} {v : Int32} (h : ¬ c < 6 ∧ ¬ (c = 8 ∧ i < 5)) : v_cA σ (bt_gs σ c i k v) := ⟨rfl, fun c' i' k' hc => b_gs_ne (by omega)⟩
theorem v_cX_gs {c i k : Nat} {v : Int32} (h : ¬ c < 6) : v_cX x (bt_gs x c i k v) := ⟨rfl, fun _ _ => rfl, fun c' i' k' hc _ => b_gs_ne (by omega)⟩
theorem u_addM : u_Fr σ w (m_addM σ w) := by
  unfold m_addM
  split
  · exact ⟨v_cA.refl, v_cX_thr⟩
  · exact ⟨(v_cA_gs (by omega)).trans (v_cA_gs (by omega)), v_cX_thr⟩
theorem u_addJ {d : Int32} : u_Fr σ w (m_addJ σ w d) := by
  unfold m_addJ
  split
  · exact ⟨v_cA.refl, v_cX_thr⟩
  · split
    · exact ⟨v_cA.refl, v_cX_thr⟩
    · exact ⟨(v_cA_gs (by omega)).trans (v_cA_gs (by omega)), v_cX_thr⟩
theorem u_opS {j m : Nat} {l f t : Int32} : v_cA σ (m_opS σ j m l f t) := by
  unfold m_opS
  exact ((((v_cA_gs (by omega)).trans (v_cA_gs (by omega))).trans (v_cA_gs (by omega))).trans (v_cA_gs (by omega))).trans (v_cA_gs (by omega))
theorem u_addO {a b l f t : Int32} : u_Fr σ w (m_addO σ w a b l f t) := by
  unfold m_addO m_addOv
  repeat' split
  all_goals first | exact ⟨v_cA.refl, v_cX_thr.trans v_cX_thr⟩ | exact ⟨u_opS, v_cX_thr.trans v_cX_thr⟩
theorem u_smx {m : Nat} {c : Int32} : v_cX w (m_smx σ w m c) := by
  have key : ∀ (n p : Nat) (y : bt_X), v_cX y (m_sml2 σ m c n p y) := by
    intro n
    induction n with
    | zero => intro p y; exact v_cX.refl
    | succ n ih => intro p y; unfold m_sml2; exact v_cX_thr.trans (ih _ _)
  unfold m_smx
  exact v_cX_thr.trans (key _ _ _)
theorem u_setMag {a c : Int32} : u_Fr σ w (m_setMag σ w a c) := by
  unfold m_setMag
  repeat' split
  all_goals first | exact ⟨v_cA.refl, v_cX_thr⟩ | exact ⟨v_cA_gs (by omega), u_smx⟩ | exact ⟨v_cA.refl, u_smx⟩
theorem u_brS {m : Nat} {f t : Int32} : v_cA σ (m_brS σ m f t) := by
  unfold m_brS
  exact (v_cA_gs (by omega)).trans (v_cA_gs (by omega))
theorem u_brk {a f t : Int32} : u_Fr σ w (m_brk σ w a f t) := by
  unfold m_brk
  repeat' split
  all_goals first | exact ⟨v_cA.refl, v_cX_thr⟩ | exact ⟨u_brS, v_cX_thr.trans v_cX_wS⟩
theorem u_rep {a : Int32} : u_Fr σ w (m_rep σ w a) := by
  unfold m_rep
  split
  · exact ⟨v_cA.refl, v_cX_thr⟩
  · exact ⟨u_brS, v_cX_thr⟩
theorem u_set {f g t : Int32} : u_Fr σ w (m_set σ w f g t) := by
  unfold m_set
  repeat' split
  all_goals first | exact ⟨v_cA.refl, v_cX_thr⟩ | exact ⟨v_cA_gs (by omega), v_cX_thr⟩
theorem u_mvd {j : Nat} {v : Int32} {y : bt_X} (h : v_cX w y) : u_Fr σ w (m_mvd σ j v y) := ⟨v_cA_gs (by omega), h.trans v_cX_wS⟩
theorem u_f {y z : bt_X} (h : z.2 = y.2 ∧ ∀ c i k, ¬ (c = 8 ∧ ((i = 15 ∨ i = 16) ∨ 26 ≤ i)) → z.1 c i k = y.1 c i k) : v_cX y z := ⟨by rw [h.1], fun _ _ => by rw [h.1], fun c i k hc _ => h.2 c i k (by omega)⟩
theorem u_place {a : Int32} : u_Fr σ w (m_place σ w a) := by
  unfold m_place
  split
  · exact u_mvd (v_cX_thr.trans (u_f ⟨(m_plc_f _ _ _).1, fun c i k hc => (m_plc_f _ _ _).2 c i k (by omega)⟩))
  · exact ⟨v_cA.refl, v_cX_thr⟩
theorem u_rush {a : Int32} : u_Fr σ w (m_rush σ w a) := by
  unfold m_rush
  split
  · exact u_mvd (v_cX_thr.trans (u_f (m_rsh_f _ _ _)))
  · exact ⟨v_cA.refl, v_cX_thr⟩
theorem u_remv {a : Int32} : u_Fr σ w (m_remv σ w a) := by
  unfold m_remv
  split
  · exact ⟨v_cA.refl, v_cX_thr⟩
  · split
    · exact ⟨v_cA.refl, v_cX_thr⟩
    · exact u_mvd (v_cX_thr.trans (u_f ⟨(m_tks_f _ _ _).1, fun c i k hc => (m_tks_f _ _ _).2 c i k (by omega)⟩))
/-- behind a call that changes the shop -/
theorem u_mut {G : bp_X} {F : b_R} {R : m_Rt} (hV : z_V α σ) (e : F.2.1.2.2 = σ.2.2) (hI : v_Inv R.2.1 R.2.2) (hF : u_Fr F.2.1 F.2.2 R) :
    z_V α (u_pS F.2.1 R.2.1) ∧ v_Inv (u_pS F.2.1 R.2.1) (u_pX F.2.2 R.2.2) ∧ u_go G α F.2.1 F.2.2 (u_pS F.2.1 R.2.1) (u_pX F.2.2 R.2.2) :=
  ⟨hV.lists e, u_Inv_p hI hF, u_go_p hV⟩
end UB
