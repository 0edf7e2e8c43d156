/-! ===== the law: its turns ===== -/
section ULW
variable {α : bt_A} {σ x : bt_X} {G : bp_X} {Φ : bp_O → bq_O → Prop} {t : Nat}
/-- what goes on behind a turn's call -/
abbrev u_TL (G : bp_X) (Φ : bp_O → bq_O → Prop) (t : Nat) (α : bt_A) : Prop := ∀ (α' : bt_A) (σ' x' : bt_X), z_V α' σ' → v_Inv σ' x' → u_L σ' x' → bt_us α' ≤ bt_us α + 110 → bq_W G mL_law 13 615 [(0, .ref (bp_sb G)), (1, .ref (bt_ad α' 5 0)), (2, .ref (bt_ad α' 8 35)), (3, .ref (bt_ad α' 8 36)), (4, .ref (bt_ad α' 8 37)), (5, .ref (bt_ad α' 8 38)), (6, .ref (bt_ad α' 8 39)), (7, .int (nI (b_nm σ'))), (8, .int (nI (b_nj σ'))), (9, .int (nI t)), (13, .int (nI 1))] [] (bt α' σ' x') Φ
theorem u_bits : ∀ a, a < 8 → ∀ b, b < 8 → (nI 1 <<< (nI a &&& 31)) ||| (nI 1 <<< (nI b &&& 31)) = nI (2 ^ a ||| 2 ^ b) ∧ (2 ^ a ||| 2 ^ b) < 256 ∧ v_pc (2 ^ a ||| 2 ^ b) ≤ 2 := by decide +kernel
theorem u_ad {α' : bt_A} (hV : z_V α σ) (hE : m_E α α') : bt_ad α 5 0 = bt_ad α' 5 0 ∧ bt_ad α 8 35 = bt_ad α' 8 35 ∧ bt_ad α 8 36 = bt_ad α' 8 36 ∧ bt_ad α 8 37 = bt_ad α' 8 37 ∧ bt_ad α 8 38 = bt_ad α' 8 38 ∧ bt_ad α 8 39 = bt_ad α' 8 39 :=
  ⟨(hE.1 _ _ hV.v5).2.symm, (hE.1 _ _ hV.a35.1).2.symm, (hE.1 _ _ hV.a36.1).2.symm, (hE.1 _ _ hV.a37.1).2.symm, (hE.1 _ _ hV.a38.1).2.symm, (hE.1 _ _ hV.a39.1).2.symm⟩
theorem u_L.due (hL : u_L σ x) {j : Nat} {v : Int32} (hj : b_nj σ ≤ j) : u_L σ (bt_gs x 8 37 j v) := by
  obtain ⟨h1, h2, h3, h4, h5, h6⟩ := hL
  exact ⟨fun j' hj' => (b_gs_ne (by omega)).trans (h1 j' hj'), fun j' hj' => (b_gs_ne (by omega)).trans (h2 j' hj'), fun j' hj' => (b_gs_ne (by omega)).trans (h3 j' hj'), fun i hi => (b_gs_ne (by omega)).trans (h4 i hi), h5, h6⟩
theorem u_L.len (hL : u_L σ x) {i : Nat} {v : Int32} (hi : ¬ v_op σ i) : u_L σ (bt_gs x 8 38 i v) := by
  obtain ⟨h1, h2, h3, h4, h5, h6⟩ := hL
  exact ⟨fun j' hj' => (b_gs_ne (by omega)).trans (h1 j' hj'), fun j' hj' => (b_gs_ne (by omega)).trans (h2 j' hj'), fun j' hj' => (b_gs_ne (by omega)).trans (h3 j' hj'), fun a ha => (b_gs_ne (fun z => hi (by rw [← z.2.2]; exact ha))).trans (h4 a ha), h5, h6⟩
set_option maxRecDepth 100000 in
set_option maxHeartbeats 1000000 in
theorem u_b1 (hV : z_V α σ) (h : v_Inv σ x) (hL : u_L σ x) (hroom : bt_us α + 110 ≤ bp_max) (tl : u_TL G Φ t α) (hlt : b_nm σ < 4) : bq_W G mL_law 13 103 [(0, .ref (bp_sb G)), (1, .ref (bt_ad α 5 0)), (2, .ref (bt_ad α 8 35)), (3, .ref (bt_ad α 8 36)), (4, .ref (bt_ad α 8 37)), (5, .ref (bt_ad α 8 38)), (6, .ref (bt_ad α 8 39)), (7, .int (nI (b_nm σ))), (8, .int (nI (b_nj σ))), (9, .int (nI t))] [] (bt α σ x) Φ := by
  obtain ⟨σ2, x2, hq, h2, hL2, em, ej⟩ := t_addM (G := G) hV h hL hlt
  refine bq_aload_n (i := 1) dL_law_103 rfl ?_
  refine bt_callV (c := 5) (i := 0) dL_law_104 rfl ml_L_60 hV.v5 (by decide) (k_addM (hV.ok h) hV.v7 hroom hlt) (by decide) (by decide) (Nat.le_of_ble_eq_true rfl) rfl (fun v9 w9 hp => ?_) (fun E9 w9 hp => by obtain ⟨_, _, q9, _⟩ := hp; cases q9)
  obtain ⟨q0, q, e9, rfl⟩ := hp
  cases e9
  obtain ⟨hgo, hV2, hE⟩ := hq q0 q
  obtain ⟨a0, a1, a2, a3, a4, a5⟩ := u_ad hV hE
  rw [a0, a1, a2, a3, a4, a5]
  refine hgo _ _ _ _ _ _ ?_
  refine bq_iload (i := 7) dL_law_107 rfl ?_
  refine bq_icmp_ne (tgt := 116) dL_law_109 (by decide) (fun z9_ => absurd rfl z9_) (fun c_109 => ?_)
  refine bq_iconst (v := (nI 1)) dL_law_112 (by decide) ?_
  refine bq_goto (tgt := 117) dL_law_113 (by decide) ?_
  refine bq_istore (i := 13) dL_law_117 (by decide) ?_
  refine bq_iinc dL_law_119 rfl (by decide) (by first | exact bp_inc _ | rfl) ?_
  refine bq_goto (tgt := 615) dL_law_122 (by decide) ?_
  rw [← em, ← ej]
  refine bq_lvs (lv' := [(0, .ref (bp_sb G)), (1, .ref (bt_ad (x_mA α (b_nm σ) q0 q) 5 0)), (2, .ref (bt_ad (x_mA α (b_nm σ) q0 q) 8 35)), (3, .ref (bt_ad (x_mA α (b_nm σ) q0 q) 8 36)), (4, .ref (bt_ad (x_mA α (b_nm σ) q0 q) 8 37)), (5, .ref (bt_ad (x_mA α (b_nm σ) q0 q) 8 38)), (6, .ref (bt_ad (x_mA α (b_nm σ) q0 q) 8 39)), (7, .int (nI (b_nm σ2))), (8, .int (nI (b_nj σ2))), (9, .int (nI t)), (13, .int (nI 1))]) ⟨rfl, rfl, rfl, rfl, rfl, rfl, rfl, rfl, rfl, rfl, rfl, trivial⟩ ?_
  exact tl _ _ _ hV2 h2 hL2 hE.2.2.2
set_option maxRecDepth 100000 in
set_option maxHeartbeats 1000000 in
theorem u_b2 (hV : z_V α σ) (h : v_Inv σ x) (hL : u_L σ x) (hroom : bt_us α + 110 ≤ bp_max) (tl : u_TL G Φ t α) {w : Int32} (hlt : b_nj σ < 8) : bq_W G mL_law 13 144 [(0, .ref (bp_sb G)), (1, .ref (bt_ad α 5 0)), (2, .ref (bt_ad α 8 35)), (3, .ref (bt_ad α 8 36)), (4, .ref (bt_ad α 8 37)), (5, .ref (bt_ad α 8 38)), (6, .ref (bt_ad α 8 39)), (7, .int (nI (b_nm σ))), (8, .int (nI (b_nj σ))), (9, .int (nI t)), (11, .int (w))] [] (bt α σ x) Φ := by
  refine bq_aload (i := 4) dL_law_144 rfl ?_
  refine bq_iload (i := 8) dL_law_146 rfl ?_
  refine bq_iload (i := 11) dL_law_148 rfl ?_
  refine bq_sipush (v := (nI 300)) dL_law_150 (by decide) ?_
  refine bq_callSr dL_law_153 ml_L_57 (u_lowx (n := 300) (by omega) (by omega)) (by decide) (by decide) (Nat.le_of_ble_eq_true rfl) rfl ?_
  show bq_W _ _ _ _ _ (.int (nI (u_lw _ 300)) :: _) _ _
  obtain ⟨r, er, hr⟩ := u_lwE _ 300 (by omega)
  rw [er]
  refine bt_iast0 (n := 37) (j := (b_nj σ)) dL_law_156 hV.a37 rfl (by omega) (by decide) rfl ?_
  refine bq_aload_n (i := 1) dL_law_157 rfl ?_
  refine bq_aload (i := 4) dL_law_158 rfl ?_
  refine bq_iload (i := 8) dL_law_160 rfl ?_
  refine bt_iald0 (n := 37) (j := (b_nj σ)) dL_law_162 hV.a37 rfl (by omega) (by decide) rfl ?_
  rw [b_gs_at]
  have h' := h.law (i := 37) (k := b_nj σ) (v := nI r) (by omega)
  obtain ⟨σ2, x2, hq, h2, hL2, em, ej⟩ := t_addJ (G := G) hV h' (hL.due (Nat.le_refl _)) hlt (d := r) (by omega) b_gs_at
  refine bt_callV (c := 5) (i := 0) dL_law_163 rfl ml_L_63 hV.v5 (by decide) (k_addJ (hV.ok h') hV.v7 hroom (nI_pos (by omega)) (nI_le (by omega) (by omega)) hlt) (by decide) (by decide) (Nat.le_of_ble_eq_true rfl) rfl (fun v9 w9 hp => ?_) (fun E9 w9 hp => by obtain ⟨_, _, q9, _⟩ := hp; cases q9)
  obtain ⟨q0, q, e9, rfl⟩ := hp
  cases e9
  obtain ⟨hgo, hV2, hE⟩ := hq q0 q
  obtain ⟨a0, a1, a2, a3, a4, a5⟩ := u_ad hV hE
  rw [a0, a1, a2, a3, a4, a5]
  refine hgo _ _ _ _ _ _ ?_
  refine bq_iload (i := 8) dL_law_166 rfl ?_
  refine bq_icmp_ne (tgt := 175) dL_law_168 (by decide) (fun z9_ => absurd rfl z9_) (fun c_168 => ?_)
  refine bq_iconst (v := (nI 1)) dL_law_171 (by decide) ?_
  refine bq_goto (tgt := 176) dL_law_172 (by decide) ?_
  refine bq_istore (i := 13) dL_law_176 (by decide) ?_
  refine bq_iinc dL_law_178 rfl (by decide) (by first | exact bp_inc _ | rfl) ?_
  refine bq_goto (tgt := 615) dL_law_181 (by decide) ?_
  rw [← em, ← ej]
  refine bq_lvs (lv' := [(0, .ref (bp_sb G)), (1, .ref (bt_ad (x_jA α (b_nj σ) q0 q) 5 0)), (2, .ref (bt_ad (x_jA α (b_nj σ) q0 q) 8 35)), (3, .ref (bt_ad (x_jA α (b_nj σ) q0 q) 8 36)), (4, .ref (bt_ad (x_jA α (b_nj σ) q0 q) 8 37)), (5, .ref (bt_ad (x_jA α (b_nj σ) q0 q) 8 38)), (6, .ref (bt_ad (x_jA α (b_nj σ) q0 q) 8 39)), (7, .int (nI (b_nm σ2))), (8, .int (nI (b_nj σ2))), (9, .int (nI t)), (13, .int (nI 1))]) ⟨rfl, rfl, rfl, rfl, rfl, rfl, rfl, rfl, rfl, rfl, rfl, trivial⟩ ?_
  exact tl _ _ _ hV2 h2 hL2 hE.2.2.2
set_option maxRecDepth 100000 in
set_option maxHeartbeats 1000000 in
theorem u_b3 (hV : z_V α σ) (h : v_Inv σ x) (hL : u_L σ x) (hroom : bt_us α + 110 ≤ bp_max) (tl : u_TL G Φ t α) {w : Int32} (hnm2 : 2 ≤ b_nm σ) (hnj2 : 2 ≤ b_nj σ) : bq_W G mL_law 13 191 [(0, .ref (bp_sb G)), (1, .ref (bt_ad α 5 0)), (2, .ref (bt_ad α 8 35)), (3, .ref (bt_ad α 8 36)), (4, .ref (bt_ad α 8 37)), (5, .ref (bt_ad α 8 38)), (6, .ref (bt_ad α 8 39)), (7, .int (nI (b_nm σ))), (8, .int (nI (b_nj σ))), (9, .int (nI t)), (11, .int (w)), (13, .int (nI 1))] [] (bt α σ x) Φ := by
  have h8 := u_nj8 h
  have h4 := u_nm4 h
  refine bq_iload (i := 11) dL_law_191 rfl ?_
  refine bq_iload (i := 8) dL_law_193 rfl ?_
  refine bq_callSr dL_law_195 ml_L_57 (u_lowx (n := (b_nj σ)) (by omega) (by omega)) (by decide) (by decide) (Nat.le_of_ble_eq_true rfl) rfl ?_
  show bq_W _ _ _ _ _ (.int (nI (u_lw _ (b_nj σ))) :: _) _ _
  obtain ⟨j, ej, hj⟩ := u_lwE _ (b_nj σ) (by omega)
  rw [ej]
  refine bq_istore (i := 14) dL_law_198 (by decide) ?_
  have hp4 := u_np4 h hj
  have e35 : x.1 8 35 j = nI (b_np σ j) := by rw [hL.1 j (by omega), if_pos hj]
  have e36 : x.1 8 36 j = σ.1 0 j 3 := by rw [hL.2.1 j (by omega), if_pos hj]
  rcases u_job01 h hj with hp | ⟨hp, hnp⟩
  · rw [hp] at e36
    by_cases hn4 : b_np σ j < 4
    · obtain ⟨n, hnd⟩ : ∃ n, n = b_np σ j := ⟨_, rfl⟩
      have hnop : ¬ v_op σ (4 * j + n) := fun z => by
        have := z.2
        rw [show (4 * j + n) / 4 = j by omega] at this
        omega
      refine bq_aload_n (i := 3) dL_law_200 rfl ?_
      refine bq_iload (i := 14) dL_law_201 rfl ?_
      refine bt_iald0 (n := 36) (j := j) dL_law_203 hV.a36 rfl (by omega) (by decide) rfl ?_
      rw [e36]
      refine bq_if_ne (tgt := 322) dL_law_204 (by decide) (fun z9_ => absurd (show nI 0 = 0 from rfl) z9_) (fun c_204 => ?_)
      refine bq_aload_n (i := 2) dL_law_207 rfl ?_
      refine bq_iload (i := 14) dL_law_208 rfl ?_
      refine bt_iald0 (n := 35) (j := j) dL_law_210 hV.a35 rfl (by omega) (by decide) rfl ?_
      rw [e35]
      refine bq_iconst (v := (nI 4)) dL_law_211 (by decide) ?_
      refine bq_icmp_ge (tgt := 322) dL_law_212 (by decide) (fun z9_ => absurd z9_ (nI_ge hn4 (by omega))) (fun c_212 => ?_)
      refine bq_aload (i := 5) dL_law_215 rfl ?_
      refine bq_iconst (v := (nI 4)) dL_law_217 (by decide) ?_
      refine bq_iload (i := 14) dL_law_218 rfl ?_
      refine bq_imul dL_law_220 ?_
      rw [pk_mul]
      refine bq_aload_n (i := 2) dL_law_221 rfl ?_
      refine bq_iload (i := 14) dL_law_222 rfl ?_
      refine bt_iald0 (n := 35) (j := j) dL_law_224 hV.a35 rfl (by omega) (by decide) rfl ?_
      rw [e35]
      refine bq_iadd dL_law_225 ?_
      rw [nI_add, ← hnd]
      refine bq_iconst (v := (nI 1)) dL_law_226 (by decide) ?_
      refine bq_iload (i := 11) dL_law_227 rfl ?_
      refine bq_iconst (v := (nI 3)) dL_law_229 (by decide) ?_
      refine bq_ishr dL_law_230 ?_
      refine bq_bipush (v := (nI 40)) dL_law_231 (by decide) ?_
      refine bq_callSr dL_law_233 ml_L_57 (u_lowx (n := 40) (by omega) (by omega)) (by decide) (by decide) (Nat.le_of_ble_eq_true rfl) rfl ?_
      show bq_W _ _ _ _ _ (.int (nI (u_lw _ 40)) :: _) _ _
      obtain ⟨l, el, hl⟩ := u_lwE _ 40 (by omega)
      rw [el]
      refine bq_iadd dL_law_236 ?_
      rw [nI_add]
      refine bt_iast0 (n := 38) (j := (4 * j + n)) dL_law_237 hV.a38 rfl (by omega) (by decide) rfl ?_
      refine bq_aload_n (i := 1) dL_law_238 rfl ?_
      refine bq_iload (i := 14) dL_law_239 rfl ?_
      refine bq_iload (i := 11) dL_law_241 rfl ?_
      refine bq_bipush (v := (nI 9)) dL_law_243 (by decide) ?_
      refine bq_ishr dL_law_245 ?_
      refine bq_iload (i := 7) dL_law_246 rfl ?_
      refine bq_callSr dL_law_248 ml_L_57 (u_lowx (n := (b_nm σ)) (by omega) (by omega)) (by decide) (by decide) (Nat.le_of_ble_eq_true rfl) rfl ?_
      show bq_W _ _ _ _ _ (.int (nI (u_lw _ (b_nm σ))) :: _) _ _
      obtain ⟨m, em, hm⟩ := u_lwE _ (b_nm σ) (by omega)
      rw [em]
      refine bq_aload (i := 5) dL_law_251 rfl ?_
      refine bq_iconst (v := (nI 4)) dL_law_253 (by decide) ?_
      refine bq_iload (i := 14) dL_law_254 rfl ?_
      refine bq_imul dL_law_256 ?_
      rw [pk_mul]
      refine bq_aload_n (i := 2) dL_law_257 rfl ?_
      refine bq_iload (i := 14) dL_law_258 rfl ?_
      refine bt_iald0 (n := 35) (j := j) dL_law_260 hV.a35 rfl (by omega) (by decide) rfl ?_
      rw [b_gs_ne (by omega), e35]
      refine bq_iadd dL_law_261 ?_
      rw [nI_add, ← hnd]
      refine bt_iald0 (n := 38) (j := (4 * j + n)) dL_law_262 hV.a38 rfl (by omega) (by decide) rfl ?_
      rw [b_gs_at]
      refine bq_iload (i := 11) dL_law_263 rfl ?_
      refine bq_bipush (v := (nI 12)) dL_law_265 (by decide) ?_
      refine bq_ishr dL_law_267 ?_
      refine bq_iconst (v := (nI 4)) dL_law_268 (by decide) ?_
      refine bq_callSr dL_law_269 ml_L_57 (u_lowx (n := 4) (by omega) (by omega)) (by decide) (by decide) (Nat.le_of_ble_eq_true rfl) rfl ?_
      show bq_W _ _ _ _ _ (.int (nI (u_lw _ 4)) :: _) _ _
      obtain ⟨F, eF, hF⟩ := u_lwE _ 4 (by omega)
      rw [eF]
      refine bq_iconst (v := (nI 1)) dL_law_272 (by decide) ?_
      refine bq_iload (i := 11) dL_law_273 rfl ?_
      refine bq_bipush (v := (nI 14)) dL_law_275 (by decide) ?_
      refine bq_ishr dL_law_277 ?_
      refine bq_bipush (v := (nI 8)) dL_law_278 (by decide) ?_
      refine bq_callSr dL_law_280 ml_L_57 (u_lowx (n := 8) (by omega) (by omega)) (by decide) (by decide) (Nat.le_of_ble_eq_true rfl) rfl ?_
      show bq_W _ _ _ _ _ (.int (nI (u_lw _ 8)) :: _) _ _
      obtain ⟨a, ea, ha⟩ := u_lwE _ 8 (by omega)
      rw [ea]
      refine bq_ishl dL_law_283 ?_
      refine bq_iconst (v := (nI 1)) dL_law_284 (by decide) ?_
      refine bq_iload (i := 11) dL_law_285 rfl ?_
      refine bq_bipush (v := (nI 17)) dL_law_287 (by decide) ?_
      refine bq_ishr dL_law_289 ?_
      refine bq_bipush (v := (nI 8)) dL_law_290 (by decide) ?_
      refine bq_callSr dL_law_292 ml_L_57 (u_lowx (n := 8) (by omega) (by omega)) (by decide) (by decide) (Nat.le_of_ble_eq_true rfl) rfl ?_
      show bq_W _ _ _ _ _ (.int (nI (u_lw _ 8)) :: _) _ _
      obtain ⟨b, eb, hb⟩ := u_lwE _ 8 (by omega)
      rw [eb]
      refine bq_ishl dL_law_295 ?_
      refine bq_ior dL_law_296 ?_
      obtain ⟨eb, hb1, hb2⟩ := u_bits a ha b hb
      rw [eb]
      have h' := h.law (i := 38) (k := 4 * j + n) (v := nI (1 + l)) (by omega)
      have hL' : u_L σ (bt_gs x 8 38 (4 * j + n) (nI (1 + l))) := hL.len hnop
      rw [hnd] at h' hL' ⊢
      obtain ⟨σ2, x2, hq, h2, hL2, em, ej, h35⟩ := t_addO (G := G) hV h' hL' hj hm hp hn4 (l := 1 + l) (by omega) (by omega) hF hb1 hb2 b_gs_at
      refine bt_callV (c := 5) (i := 0) dL_law_297 rfl ml_L_66 hV.v5 (by decide) (k_addO (hV.ok h') hV.v7 hroom (u_addE h' hL' hj hm hp hn4 (by omega) (by omega) hF hb1 hb2) (u_ix hj (by omega)) (u_ix hm (by omega))) (by decide) (by decide) (Nat.le_of_ble_eq_true rfl) rfl (fun v9 w9 hp => ?_) (fun E9 w9 hp => by obtain ⟨_, q9, _⟩ := hp; cases q9)
      obtain ⟨q0, e9, rfl⟩ := hp
      cases e9
      obtain ⟨hgo, hV2, hE⟩ := hq q0
      obtain ⟨a0, a1, a2, a3, a4, a5⟩ := u_ad hV hE
      rw [a0, a1, a2, a3, a4, a5]
      refine hgo _ _ _ _ _ _ ?_
      refine bq_aload_n (i := 2) dL_law_300 rfl ?_
      refine bq_iload (i := 14) dL_law_301 rfl ?_
      refine bt_iald0 (n := 35) (j := j) dL_law_303 hV2.a35 rfl (by omega) (by decide) rfl ?_
      rw [h35]
      refine bq_icmp_ne (tgt := 311) dL_law_304 (by decide) (fun z9_ => absurd rfl z9_) (fun c_304 => ?_)
      refine bq_iconst (v := (nI 1)) dL_law_307 (by decide) ?_
      refine bq_goto (tgt := 312) dL_law_308 (by decide) ?_
      refine bq_istore (i := 13) dL_law_312 (by decide) ?_
      refine bq_aload_n (i := 2) dL_law_314 rfl ?_
      refine bq_iload (i := 14) dL_law_315 rfl ?_
      refine bq_dup2 dL_law_317 rfl rfl ?_
      refine bt_iald0 (n := 35) (j := j) dL_law_318 hV2.a35 rfl (by omega) (by decide) rfl ?_
      rw [h35]
      refine bq_iconst (v := (nI 1)) dL_law_319 (by decide) ?_
      refine bq_iadd dL_law_320 ?_
      rw [nI_add]
      refine bt_iast0 (n := 35) (j := j) dL_law_321 hV2.a35 rfl (by omega) (by decide) rfl ?_
      refine bq_goto (tgt := 615) dL_law_322 (by decide) ?_
      rw [← em, ← ej]
      refine bq_lvs (lv' := [(0, .ref (bp_sb G)), (1, .ref (bt_ad (x_oA α (4 * j + b_np σ j) q0) 5 0)), (2, .ref (bt_ad (x_oA α (4 * j + b_np σ j) q0) 8 35)), (3, .ref (bt_ad (x_oA α (4 * j + b_np σ j) q0) 8 36)), (4, .ref (bt_ad (x_oA α (4 * j + b_np σ j) q0) 8 37)), (5, .ref (bt_ad (x_oA α (4 * j + b_np σ j) q0) 8 38)), (6, .ref (bt_ad (x_oA α (4 * j + b_np σ j) q0) 8 39)), (7, .int (nI (b_nm σ2))), (8, .int (nI (b_nj σ2))), (9, .int (nI t)), (13, .int (nI 1))]) ⟨rfl, rfl, rfl, rfl, rfl, rfl, rfl, rfl, rfl, rfl, rfl, trivial⟩ ?_
      exact tl _ _ _ hV2 (h2.law (by omega)) hL2 hE.2.2.2
    · refine bq_aload_n (i := 3) dL_law_200 rfl ?_
      refine bq_iload (i := 14) dL_law_201 rfl ?_
      refine bt_iald0 (n := 36) (j := j) dL_law_203 hV.a36 rfl (by omega) (by decide) rfl ?_
      rw [e36]
      refine bq_if_ne (tgt := 322) dL_law_204 (by decide) (fun z9_ => absurd (show nI 0 = 0 from rfl) z9_) (fun c_204 => ?_)
      refine bq_aload_n (i := 2) dL_law_207 rfl ?_
      refine bq_iload (i := 14) dL_law_208 rfl ?_
      refine bt_iald0 (n := 35) (j := j) dL_law_210 hV.a35 rfl (by omega) (by decide) rfl ?_
      rw [e35]
      refine bq_iconst (v := (nI 4)) dL_law_211 (by decide) ?_
      refine bq_icmp_ge (tgt := 322) dL_law_212 (by decide) (fun c_212 => ?_) (fun z9_ => absurd (nI_le (Nat.le_of_not_lt hn4) (by omega)) z9_)
      refine bq_goto (tgt := 615) dL_law_322 (by decide) ?_
      refine bq_lvs (lv' := [(0, .ref (bp_sb G)), (1, .ref (bt_ad α 5 0)), (2, .ref (bt_ad α 8 35)), (3, .ref (bt_ad α 8 36)), (4, .ref (bt_ad α 8 37)), (5, .ref (bt_ad α 8 38)), (6, .ref (bt_ad α 8 39)), (7, .int (nI (b_nm σ))), (8, .int (nI (b_nj σ))), (9, .int (nI t)), (13, .int (nI 1))]) ⟨rfl, rfl, rfl, rfl, rfl, rfl, rfl, rfl, rfl, rfl, rfl, trivial⟩ ?_
      exact tl _ _ _ hV h hL (Nat.le_add_right _ _)
  · rw [hp] at e36
    refine bq_aload_n (i := 3) dL_law_200 rfl ?_
    refine bq_iload (i := 14) dL_law_201 rfl ?_
    refine bt_iald0 (n := 36) (j := j) dL_law_203 hV.a36 rfl (by omega) (by decide) rfl ?_
    rw [e36]
    refine bq_if_ne (tgt := 322) dL_law_204 (by decide) (fun c_204 => ?_) (fun z9_ => absurd z9_ (show ¬ nI 1 = 0 by decide))
    refine bq_goto (tgt := 615) dL_law_322 (by decide) ?_
    refine bq_lvs (lv' := [(0, .ref (bp_sb G)), (1, .ref (bt_ad α 5 0)), (2, .ref (bt_ad α 8 35)), (3, .ref (bt_ad α 8 36)), (4, .ref (bt_ad α 8 37)), (5, .ref (bt_ad α 8 38)), (6, .ref (bt_ad α 8 39)), (7, .int (nI (b_nm σ))), (8, .int (nI (b_nj σ))), (9, .int (nI t)), (13, .int (nI 1))]) ⟨rfl, rfl, rfl, rfl, rfl, rfl, rfl, rfl, rfl, rfl, rfl, trivial⟩ ?_
    exact tl _ _ _ hV h hL (Nat.le_add_right _ _)
set_option maxRecDepth 100000 in
set_option maxHeartbeats 1000000 in
theorem u_b4 (hV : z_V α σ) (h : v_Inv σ x) (hL : u_L σ x) (hroom : bt_us α + 110 ≤ bp_max) (tl : u_TL G Φ t α) {w : Int32} (hnj2 : 2 ≤ b_nj σ) : bq_W G mL_law 13 332 [(0, .ref (bp_sb G)), (1, .ref (bt_ad α 5 0)), (2, .ref (bt_ad α 8 35)), (3, .ref (bt_ad α 8 36)), (4, .ref (bt_ad α 8 37)), (5, .ref (bt_ad α 8 38)), (6, .ref (bt_ad α 8 39)), (7, .int (nI (b_nm σ))), (8, .int (nI (b_nj σ))), (9, .int (nI t)), (11, .int (w)), (13, .int (nI 1))] [] (bt α σ x) Φ := by
  have h8 := u_nj8 h
  refine bq_iload (i := 11) dL_law_332 rfl ?_
  refine bq_iload (i := 8) dL_law_334 rfl ?_
  refine bq_callSr dL_law_336 ml_L_57 (u_lowx (n := (b_nj σ)) (by omega) (by omega)) (by decide) (by decide) (Nat.le_of_ble_eq_true rfl) rfl ?_
  show bq_W _ _ _ _ _ (.int (nI (u_lw _ (b_nj σ))) :: _) _ _
  obtain ⟨j, ej, hj⟩ := u_lwE _ (b_nj σ) (by omega)
  rw [ej]
  refine bq_istore (i := 14) dL_law_339 (by decide) ?_
  have hp4 := u_np4 h hj
  have e35 : x.1 8 35 j = nI (b_np σ j) := by rw [hL.1 j (by omega), if_pos hj]
  have e36 : x.1 8 36 j = σ.1 0 j 3 := by rw [hL.2.1 j (by omega), if_pos hj]
  rcases u_job01 h hj with hp | ⟨hp, hnp⟩
  · rw [hp] at e36
    by_cases hnp : b_np σ j = 0
    · refine bq_aload_n (i := 3) dL_law_341 rfl ?_
      refine bq_iload (i := 14) dL_law_342 rfl ?_
      refine bt_iald0 (n := 36) (j := j) dL_law_344 hV.a36 rfl (by omega) (by decide) rfl ?_
      rw [e36]
      refine bq_iconst (v := (nI 1)) dL_law_345 (by decide) ?_
      refine bq_icmp_ne (tgt := 364) dL_law_346 (by decide) (fun c_346 => ?_) (fun z9_ => absurd z9_ (show ¬ nI 0 = nI 1 by decide))
      refine bq_aload_n (i := 2) dL_law_364 rfl ?_
      refine bq_iload (i := 14) dL_law_365 rfl ?_
      refine bt_iald0 (n := 35) (j := j) dL_law_367 hV.a35 rfl (by omega) (by decide) rfl ?_
      rw [e35]
      refine bq_if_le (tgt := 416) dL_law_368 (by decide) (fun c_368 => ?_) (fun z9_ => absurd (show nI (b_np σ j) ≤ 0 by rw [hnp]; decide) z9_)
      refine bq_goto (tgt := 615) dL_law_416 (by decide) ?_
      refine bq_lvs (lv' := [(0, .ref (bp_sb G)), (1, .ref (bt_ad α 5 0)), (2, .ref (bt_ad α 8 35)), (3, .ref (bt_ad α 8 36)), (4, .ref (bt_ad α 8 37)), (5, .ref (bt_ad α 8 38)), (6, .ref (bt_ad α 8 39)), (7, .int (nI (b_nm σ))), (8, .int (nI (b_nj σ))), (9, .int (nI t)), (13, .int (nI 1))]) ⟨rfl, rfl, rfl, rfl, rfl, rfl, rfl, rfl, rfl, rfl, rfl, trivial⟩ ?_
      exact tl _ _ _ hV h hL (Nat.le_add_right _ _)
    · refine bq_aload_n (i := 3) dL_law_341 rfl ?_
      refine bq_iload (i := 14) dL_law_342 rfl ?_
      refine bt_iald0 (n := 36) (j := j) dL_law_344 hV.a36 rfl (by omega) (by decide) rfl ?_
      rw [e36]
      refine bq_iconst (v := (nI 1)) dL_law_345 (by decide) ?_
      refine bq_icmp_ne (tgt := 364) dL_law_346 (by decide) (fun c_346 => ?_) (fun z9_ => absurd z9_ (show ¬ nI 0 = nI 1 by decide))
      refine bq_aload_n (i := 2) dL_law_364 rfl ?_
      refine bq_iload (i := 14) dL_law_365 rfl ?_
      refine bt_iald0 (n := 35) (j := j) dL_law_367 hV.a35 rfl (by omega) (by decide) rfl ?_
      rw [e35]
      refine bq_if_le (tgt := 416) dL_law_368 (by decide) (fun z9_ => absurd z9_ (nI_nle (by omega) (by omega))) (fun c_368 => ?_)
      refine bq_iload (i := 11) dL_law_371 rfl ?_
      refine bq_iconst (v := (nI 4)) dL_law_373 (by decide) ?_
      refine bq_ishr dL_law_374 ?_
      refine bq_iconst (v := (nI 2)) dL_law_375 (by decide) ?_
      refine bq_callSr dL_law_376 ml_L_57 (u_lowx (n := 2) (by omega) (by omega)) (by decide) (by decide) (Nat.le_of_ble_eq_true rfl) rfl ?_
      show bq_W _ _ _ _ _ (.int (nI (u_lw _ 2)) :: _) _ _
      obtain ⟨r, er, hr⟩ := u_lwE _ 2 (by omega)
      rw [er]
      rcases (show r = 0 ∨ r = 1 by omega) with rfl | rfl
      · obtain ⟨u, σ1, x1, σ2, x2, hS, hgo, hV2, h2, e5, hM⟩ := t_place (G := G) hV h hj hp hnp hroom
        refine bq_if_ne (tgt := 391) dL_law_379 (by decide) (fun z9_ => absurd (show nI 0 = 0 from rfl) z9_) (fun c_379 => ?_)
        refine bq_aload_n (i := 1) dL_law_382 rfl ?_
        refine bq_iload (i := 14) dL_law_383 rfl ?_
        refine bt_callVr (c := 5) (i := 0) dL_law_385 rfl ml_L_73 hV.v5 (by decide) hS (by decide) (by decide) (Nat.le_of_ble_eq_true rfl) rfl ?_
        refine hgo _ _ _ _ _ _ ?_
        refine bq_goto (tgt := 397) dL_law_388 (by decide) ?_
        refine bq_aload_n (i := 1) dL_law_397 rfl ?_
        refine bt_callVr (c := 5) (i := 0) dL_law_398 rfl ml_L_24 (by first | exact hV.v5 | assumption | exact J.v3 | exact J.v4 | exact J.v5 | exact J.v6 | exact J.l0 | exact J.l1 | exact J.l2 | exact J.l3 | exact J.row (by assumption) | exact J.ops (by assumption) | exact J.job (by assumption)) (by decide) (t_span hV2 h2 hroom) (by decide) (by decide) (Nat.le_of_ble_eq_true rfl) rfl ?_
        refine bq_icmp_ne (tgt := 408) dL_law_401 (by decide) (fun z9_ => absurd e5.symm z9_) (fun c_401 => ?_)
        refine bq_iconst (v := (nI 1)) dL_law_404 (by decide) ?_
        refine bq_goto (tgt := 409) dL_law_405 (by decide) ?_
        refine bq_istore (i := 13) dL_law_409 (by decide) ?_
        refine bq_aload_n (i := 3) dL_law_411 rfl ?_
        refine bq_iload (i := 14) dL_law_412 rfl ?_
        refine bq_iconst (v := (nI 1)) dL_law_414 (by decide) ?_
        refine bt_iast0 (n := 36) (j := j) dL_law_415 hV2.a36 rfl (by omega) (by decide) rfl ?_
        refine bq_goto (tgt := 615) dL_law_416 (by decide) ?_
        have em : b_nm σ2 = b_nm σ := by unfold b_nm; rw [hM.1]
        have ej : b_nj σ2 = b_nj σ := by unfold b_nj; rw [hM.1]
        rw [← em, ← ej]
        refine bq_lvs (lv' := [(0, .ref (bp_sb G)), (1, .ref (bt_ad α 5 0)), (2, .ref (bt_ad α 8 35)), (3, .ref (bt_ad α 8 36)), (4, .ref (bt_ad α 8 37)), (5, .ref (bt_ad α 8 38)), (6, .ref (bt_ad α 8 39)), (7, .int (nI (b_nm σ2))), (8, .int (nI (b_nj σ2))), (9, .int (nI t)), (13, .int (nI 1))]) ⟨rfl, rfl, rfl, rfl, rfl, rfl, rfl, rfl, rfl, rfl, rfl, trivial⟩ ?_
        exact tl _ _ _ hV2 (h2.law (by omega)) (hM.L hL hj) (Nat.le_add_right _ _)
      · obtain ⟨u, σ1, x1, σ2, x2, hS, hgo, hV2, h2, e5, hM⟩ := t_rush (G := G) hV h hj hp hnp hroom
        refine bq_if_ne (tgt := 391) dL_law_379 (by decide) (fun c_379 => ?_) (fun z9_ => absurd z9_ (show ¬ nI 1 = 0 by decide))
        refine bq_aload_n (i := 1) dL_law_391 rfl ?_
        refine bq_iload (i := 14) dL_law_392 rfl ?_
        refine bt_callVr (c := 5) (i := 0) dL_law_394 rfl ml_L_76 hV.v5 (by decide) hS (by decide) (by decide) (Nat.le_of_ble_eq_true rfl) rfl ?_
        refine hgo _ _ _ _ _ _ ?_
        refine bq_aload_n (i := 1) dL_law_397 rfl ?_
        refine bt_callVr (c := 5) (i := 0) dL_law_398 rfl ml_L_24 (by first | exact hV.v5 | assumption | exact J.v3 | exact J.v4 | exact J.v5 | exact J.v6 | exact J.l0 | exact J.l1 | exact J.l2 | exact J.l3 | exact J.row (by assumption) | exact J.ops (by assumption) | exact J.job (by assumption)) (by decide) (t_span hV2 h2 hroom) (by decide) (by decide) (Nat.le_of_ble_eq_true rfl) rfl ?_
        refine bq_icmp_ne (tgt := 408) dL_law_401 (by decide) (fun z9_ => absurd e5.symm z9_) (fun c_401 => ?_)
        refine bq_iconst (v := (nI 1)) dL_law_404 (by decide) ?_
        refine bq_goto (tgt := 409) dL_law_405 (by decide) ?_
        refine bq_istore (i := 13) dL_law_409 (by decide) ?_
        refine bq_aload_n (i := 3) dL_law_411 rfl ?_
        refine bq_iload (i := 14) dL_law_412 rfl ?_
        refine bq_iconst (v := (nI 1)) dL_law_414 (by decide) ?_
        refine bt_iast0 (n := 36) (j := j) dL_law_415 hV2.a36 rfl (by omega) (by decide) rfl ?_
        refine bq_goto (tgt := 615) dL_law_416 (by decide) ?_
        have em : b_nm σ2 = b_nm σ := by unfold b_nm; rw [hM.1]
        have ej : b_nj σ2 = b_nj σ := by unfold b_nj; rw [hM.1]
        rw [← em, ← ej]
        refine bq_lvs (lv' := [(0, .ref (bp_sb G)), (1, .ref (bt_ad α 5 0)), (2, .ref (bt_ad α 8 35)), (3, .ref (bt_ad α 8 36)), (4, .ref (bt_ad α 8 37)), (5, .ref (bt_ad α 8 38)), (6, .ref (bt_ad α 8 39)), (7, .int (nI (b_nm σ2))), (8, .int (nI (b_nj σ2))), (9, .int (nI t)), (13, .int (nI 1))]) ⟨rfl, rfl, rfl, rfl, rfl, rfl, rfl, rfl, rfl, rfl, rfl, trivial⟩ ?_
        exact tl _ _ _ hV2 (h2.law (by omega)) (hM.L hL hj) (Nat.le_add_right _ _)
  · rw [hp] at e36
    obtain ⟨u, σ1, x1, σ2, x2, hS, hgo, hV2, h2, e5, hM⟩ := t_rem (G := G) hV h hj hp hroom
    refine bq_aload_n (i := 3) dL_law_341 rfl ?_
    refine bq_iload (i := 14) dL_law_342 rfl ?_
    refine bt_iald0 (n := 36) (j := j) dL_law_344 hV.a36 rfl (by omega) (by decide) rfl ?_
    rw [e36]
    refine bq_iconst (v := (nI 1)) dL_law_345 (by decide) ?_
    refine bq_icmp_ne (tgt := 364) dL_law_346 (by decide) (fun z9_ => absurd rfl z9_) (fun c_346 => ?_)
    refine bq_aload_n (i := 1) dL_law_349 rfl ?_
    refine bq_iload (i := 14) dL_law_350 rfl ?_
    refine bt_callVr (c := 5) (i := 0) dL_law_352 rfl ml_L_70 hV.v5 (by decide) hS (by decide) (by decide) (Nat.le_of_ble_eq_true rfl) rfl ?_
    refine hgo _ _ _ _ _ _ ?_
    refine bq_pop dL_law_355 rfl ?_
    refine bq_aload_n (i := 3) dL_law_356 rfl ?_
    refine bq_iload (i := 14) dL_law_357 rfl ?_
    refine bq_iconst (v := (nI 0)) dL_law_359 (by decide) ?_
    refine bt_iast0 (n := 36) (j := j) dL_law_360 hV2.a36 rfl (by omega) (by decide) rfl ?_
    refine bq_goto (tgt := 416) dL_law_361 (by decide) ?_
    refine bq_goto (tgt := 615) dL_law_416 (by decide) ?_
    have em : b_nm σ2 = b_nm σ := by unfold b_nm; rw [hM.1]
    have ej : b_nj σ2 = b_nj σ := by unfold b_nj; rw [hM.1]
    rw [← em, ← ej]
    refine bq_lvs (lv' := [(0, .ref (bp_sb G)), (1, .ref (bt_ad α 5 0)), (2, .ref (bt_ad α 8 35)), (3, .ref (bt_ad α 8 36)), (4, .ref (bt_ad α 8 37)), (5, .ref (bt_ad α 8 38)), (6, .ref (bt_ad α 8 39)), (7, .int (nI (b_nm σ2))), (8, .int (nI (b_nj σ2))), (9, .int (nI t)), (13, .int (nI 1))]) ⟨rfl, rfl, rfl, rfl, rfl, rfl, rfl, rfl, rfl, rfl, rfl, trivial⟩ ?_
    exact tl _ _ _ hV2 (h2.law (by omega)) (hM.L hL hj) (Nat.le_add_right _ _)
set_option maxRecDepth 100000 in
set_option maxHeartbeats 1000000 in
theorem u_b5 (hV : z_V α σ) (h : v_Inv σ x) (hL : u_L σ x) (hroom : bt_us α + 110 ≤ bp_max) (tl : u_TL G Φ t α) {w : Int32} : bq_W G mL_law 13 426 [(0, .ref (bp_sb G)), (1, .ref (bt_ad α 5 0)), (2, .ref (bt_ad α 8 35)), (3, .ref (bt_ad α 8 36)), (4, .ref (bt_ad α 8 37)), (5, .ref (bt_ad α 8 38)), (6, .ref (bt_ad α 8 39)), (7, .int (nI (b_nm σ))), (8, .int (nI (b_nj σ))), (9, .int (nI t)), (11, .int (w)), (13, .int (nI 1))] [] (bt α σ x) Φ := by
  refine bq_aload_n (i := 1) dL_law_426 rfl ?_
  refine bq_iload (i := 11) dL_law_427 rfl ?_
  refine bq_iconst (v := (nI 4)) dL_law_429 (by decide) ?_
  refine bq_callSr dL_law_430 ml_L_57 (u_lowx (n := 4) (by omega) (by omega)) (by decide) (by decide) (Nat.le_of_ble_eq_true rfl) rfl ?_
  show bq_W _ _ _ _ _ (.int (nI (u_lw _ 4)) :: _) _ _
  obtain ⟨f, ef, hf⟩ := u_lwE _ 4 (by omega)
  rw [ef]
  refine bq_iload (i := 11) dL_law_433 rfl ?_
  refine bq_iconst (v := (nI 3)) dL_law_435 (by decide) ?_
  refine bq_ishr dL_law_436 ?_
  refine bq_iconst (v := (nI 4)) dL_law_437 (by decide) ?_
  refine bq_callSr dL_law_438 ml_L_57 (u_lowx (n := 4) (by omega) (by omega)) (by decide) (by decide) (Nat.le_of_ble_eq_true rfl) rfl ?_
  show bq_W _ _ _ _ _ (.int (nI (u_lw _ 4)) :: _) _ _
  obtain ⟨g, eg, hg⟩ := u_lwE _ 4 (by omega)
  rw [eg]
  refine bq_iload (i := 11) dL_law_441 rfl ?_
  refine bq_bipush (v := (nI 6)) dL_law_443 (by decide) ?_
  refine bq_ishr dL_law_445 ?_
  refine bq_bipush (v := (nI 20)) dL_law_446 (by decide) ?_
  refine bq_callSr dL_law_448 ml_L_57 (u_lowx (n := 20) (by omega) (by omega)) (by decide) (by decide) (Nat.le_of_ble_eq_true rfl) rfl ?_
  show bq_W _ _ _ _ _ (.int (nI (u_lw _ 20)) :: _) _ _
  obtain ⟨r, er, hr⟩ := u_lwE _ 20 (by omega)
  rw [er]
  obtain ⟨u, σ1, x1, σ2, x2, hS, hgo, hV2, h2, hL2, hls, hQ⟩ := t_setS (G := G) hV h hL hf hg (t := r) (by omega) hroom
  refine bt_callVr (c := 5) (i := 0) dL_law_451 rfl ml_L_79 hV.v5 (by decide) hS (by decide) (by decide) (Nat.le_of_ble_eq_true rfl) rfl ?_
  refine hgo _ _ _ _ _ _ ?_
  refine bq_pop dL_law_454 rfl ?_
  refine bq_goto (tgt := 615) dL_law_455 (by decide) ?_
  have em : b_nm σ2 = b_nm σ := by unfold b_nm; rw [hls]
  have ej : b_nj σ2 = b_nj σ := by unfold b_nj; rw [hls]
  rw [← em, ← ej]
  refine bq_lvs (lv' := [(0, .ref (bp_sb G)), (1, .ref (bt_ad α 5 0)), (2, .ref (bt_ad α 8 35)), (3, .ref (bt_ad α 8 36)), (4, .ref (bt_ad α 8 37)), (5, .ref (bt_ad α 8 38)), (6, .ref (bt_ad α 8 39)), (7, .int (nI (b_nm σ2))), (8, .int (nI (b_nj σ2))), (9, .int (nI t)), (13, .int (nI 1))]) ⟨rfl, rfl, rfl, rfl, rfl, rfl, rfl, rfl, rfl, rfl, rfl, trivial⟩ ?_
  exact tl _ _ _ hV2 h2 hL2 (Nat.le_add_right _ _)
set_option maxRecDepth 100000 in
set_option maxHeartbeats 1000000 in
theorem u_b6 (hV : z_V α σ) (h : v_Inv σ x) (hL : u_L σ x) (hroom : bt_us α + 110 ≤ bp_max) (tl : u_TL G Φ t α) {w : Int32} (hnm2 : 2 ≤ b_nm σ) : bq_W G mL_law 13 465 [(0, .ref (bp_sb G)), (1, .ref (bt_ad α 5 0)), (2, .ref (bt_ad α 8 35)), (3, .ref (bt_ad α 8 36)), (4, .ref (bt_ad α 8 37)), (5, .ref (bt_ad α 8 38)), (6, .ref (bt_ad α 8 39)), (7, .int (nI (b_nm σ))), (8, .int (nI (b_nj σ))), (9, .int (nI t)), (11, .int (w)), (13, .int (nI 1))] [] (bt α σ x) Φ := by
  have h4 := u_nm4 h
  refine bq_iload (i := 11) dL_law_465 rfl ?_
  refine bq_iconst (v := (nI 3)) dL_law_467 (by decide) ?_
  refine bq_ishr dL_law_468 ?_
  refine bq_bipush (v := (nI 120)) dL_law_469 (by decide) ?_
  refine bq_callSr dL_law_471 ml_L_57 (u_lowx (n := 120) (by omega) (by omega)) (by decide) (by decide) (Nat.le_of_ble_eq_true rfl) rfl ?_
  show bq_W _ _ _ _ _ (.int (nI (u_lw _ 120)) :: _) _ _
  obtain ⟨f, ef, hf⟩ := u_lwE _ 120 (by omega)
  rw [ef]
  refine bq_istore (i := 14) dL_law_474 (by decide) ?_
  refine bq_aload_n (i := 1) dL_law_476 rfl ?_
  refine bq_iload (i := 11) dL_law_477 rfl ?_
  refine bq_iload (i := 7) dL_law_479 rfl ?_
  refine bq_callSr dL_law_481 ml_L_57 (u_lowx (n := (b_nm σ)) (by omega) (by omega)) (by decide) (by decide) (Nat.le_of_ble_eq_true rfl) rfl ?_
  show bq_W _ _ _ _ _ (.int (nI (u_lw _ (b_nm σ))) :: _) _ _
  obtain ⟨m, em, hm⟩ := u_lwE _ (b_nm σ) (by omega)
  rw [em]
  refine bq_iload (i := 14) dL_law_484 rfl ?_
  refine bq_iload (i := 14) dL_law_486 rfl ?_
  refine bq_iconst (v := (nI 1)) dL_law_488 (by decide) ?_
  refine bq_iadd dL_law_489 ?_
  rw [nI_add]
  refine bq_iload (i := 11) dL_law_490 rfl ?_
  refine bq_bipush (v := (nI 11)) dL_law_492 (by decide) ?_
  refine bq_ishr dL_law_494 ?_
  refine bq_bipush (v := (nI 40)) dL_law_495 (by decide) ?_
  refine bq_callSr dL_law_497 ml_L_57 (u_lowx (n := 40) (by omega) (by omega)) (by decide) (by decide) (Nat.le_of_ble_eq_true rfl) rfl ?_
  show bq_W _ _ _ _ _ (.int (nI (u_lw _ 40)) :: _) _ _
  obtain ⟨r, er, hr⟩ := u_lwE _ 40 (by omega)
  rw [er]
  refine bq_iadd dL_law_500 ?_
  rw [nI_add]
  obtain ⟨u, σ1, x1, σ2, x2, hS, hgo, hV2, h2, hL2, hls, hQ⟩ := t_brk (G := G) hV h hL hm (f := f) (t := f + 1 + r) (by omega) (by omega) (by omega) hroom
  refine bt_callVr (c := 5) (i := 0) dL_law_501 rfl ml_L_83 hV.v5 (by decide) hS (by decide) (by decide) (Nat.le_of_ble_eq_true rfl) rfl ?_
  refine hgo _ _ _ _ _ _ ?_
  refine bq_aload_n (i := 1) dL_law_504 rfl ?_
  refine bt_callVr (c := 5) (i := 0) dL_law_505 rfl ml_L_24 (by first | exact hV.v5 | assumption | exact J.v3 | exact J.v4 | exact J.v5 | exact J.v6 | exact J.l0 | exact J.l1 | exact J.l2 | exact J.l3 | exact J.row (by assumption) | exact J.ops (by assumption) | exact J.job (by assumption)) (by decide) (t_span hV2 h2 hroom) (by decide) (by decide) (Nat.le_of_ble_eq_true rfl) rfl ?_
  refine bq_icmp_ne (tgt := 515) dL_law_508 (by decide) (fun z9_ => absurd hQ.symm z9_) (fun c_508 => ?_)
  refine bq_iconst (v := (nI 1)) dL_law_511 (by decide) ?_
  refine bq_goto (tgt := 516) dL_law_512 (by decide) ?_
  refine bq_istore (i := 13) dL_law_516 (by decide) ?_
  refine bq_goto (tgt := 615) dL_law_518 (by decide) ?_
  have em : b_nm σ2 = b_nm σ := by unfold b_nm; rw [hls]
  have ej : b_nj σ2 = b_nj σ := by unfold b_nj; rw [hls]
  rw [← em, ← ej]
  refine bq_lvs (lv' := [(0, .ref (bp_sb G)), (1, .ref (bt_ad α 5 0)), (2, .ref (bt_ad α 8 35)), (3, .ref (bt_ad α 8 36)), (4, .ref (bt_ad α 8 37)), (5, .ref (bt_ad α 8 38)), (6, .ref (bt_ad α 8 39)), (7, .int (nI (b_nm σ2))), (8, .int (nI (b_nj σ2))), (9, .int (nI t)), (13, .int (nI 1))]) ⟨rfl, rfl, rfl, rfl, rfl, rfl, rfl, rfl, rfl, rfl, rfl, trivial⟩ ?_
  exact tl _ _ _ hV2 h2 hL2 (Nat.le_add_right _ _)
set_option maxRecDepth 100000 in
set_option maxHeartbeats 1000000 in
theorem u_b7 (hV : z_V α σ) (h : v_Inv σ x) (hL : u_L σ x) (hroom : bt_us α + 110 ≤ bp_max) (tl : u_TL G Φ t α) {w : Int32} (hnm2 : 2 ≤ b_nm σ) : bq_W G mL_law 13 528 [(0, .ref (bp_sb G)), (1, .ref (bt_ad α 5 0)), (2, .ref (bt_ad α 8 35)), (3, .ref (bt_ad α 8 36)), (4, .ref (bt_ad α 8 37)), (5, .ref (bt_ad α 8 38)), (6, .ref (bt_ad α 8 39)), (7, .int (nI (b_nm σ))), (8, .int (nI (b_nj σ))), (9, .int (nI t)), (11, .int (w)), (13, .int (nI 1))] [] (bt α σ x) Φ := by
  have h4 := u_nm4 h
  refine bq_aload_n (i := 1) dL_law_528 rfl ?_
  refine bq_iload (i := 11) dL_law_529 rfl ?_
  refine bq_iload (i := 7) dL_law_531 rfl ?_
  refine bq_callSr dL_law_533 ml_L_57 (u_lowx (n := (b_nm σ)) (by omega) (by omega)) (by decide) (by decide) (Nat.le_of_ble_eq_true rfl) rfl ?_
  show bq_W _ _ _ _ _ (.int (nI (u_lw _ (b_nm σ))) :: _) _ _
  obtain ⟨m, em, hm⟩ := u_lwE _ (b_nm σ) (by omega)
  rw [em]
  obtain ⟨u, σ1, x1, σ2, x2, hS, hgo, hV2, h2, hL2, hls, hQ⟩ := t_rep (G := G) hV h hL hm hroom
  refine bt_callVr (c := 5) (i := 0) dL_law_536 rfl ml_L_86 hV.v5 (by decide) hS (by decide) (by decide) (Nat.le_of_ble_eq_true rfl) rfl ?_
  refine hgo _ _ _ _ _ _ ?_
  refine bq_pop dL_law_539 rfl ?_
  refine bq_goto (tgt := 615) dL_law_540 (by decide) ?_
  have em : b_nm σ2 = b_nm σ := by unfold b_nm; rw [hls]
  have ej : b_nj σ2 = b_nj σ := by unfold b_nj; rw [hls]
  rw [← em, ← ej]
  refine bq_lvs (lv' := [(0, .ref (bp_sb G)), (1, .ref (bt_ad α 5 0)), (2, .ref (bt_ad α 8 35)), (3, .ref (bt_ad α 8 36)), (4, .ref (bt_ad α 8 37)), (5, .ref (bt_ad α 8 38)), (6, .ref (bt_ad α 8 39)), (7, .int (nI (b_nm σ2))), (8, .int (nI (b_nj σ2))), (9, .int (nI t)), (13, .int (nI 1))]) ⟨rfl, rfl, rfl, rfl, rfl, rfl, rfl, rfl, rfl, rfl, rfl, trivial⟩ ?_
  exact tl _ _ _ hV2 h2 hL2 (Nat.le_add_right _ _)
set_option maxRecDepth 100000 in
set_option maxHeartbeats 1000000 in
theorem u_b8 (hV : z_V α σ) (h : v_Inv σ x) (hL : u_L σ x) (hroom : bt_us α + 110 ≤ bp_max) (tl : u_TL G Φ t α) {w : Int32} (hnm2 : 2 ≤ b_nm σ) : bq_W G mL_law 13 543 [(0, .ref (bp_sb G)), (1, .ref (bt_ad α 5 0)), (2, .ref (bt_ad α 8 35)), (3, .ref (bt_ad α 8 36)), (4, .ref (bt_ad α 8 37)), (5, .ref (bt_ad α 8 38)), (6, .ref (bt_ad α 8 39)), (7, .int (nI (b_nm σ))), (8, .int (nI (b_nj σ))), (9, .int (nI t)), (11, .int (w)), (13, .int (nI 1))] [] (bt α σ x) Φ := by
  have h4 := u_nm4 h
  refine bq_aload_n (i := 1) dL_law_543 rfl ?_
  refine bq_iload (i := 11) dL_law_544 rfl ?_
  refine bq_iload (i := 7) dL_law_546 rfl ?_
  refine bq_callSr dL_law_548 ml_L_57 (u_lowx (n := (b_nm σ)) (by omega) (by omega)) (by decide) (by decide) (Nat.le_of_ble_eq_true rfl) rfl ?_
  show bq_W _ _ _ _ _ (.int (nI (u_lw _ (b_nm σ))) :: _) _ _
  obtain ⟨m, em, hm⟩ := u_lwE _ (b_nm σ) (by omega)
  rw [em]
  refine bt_callVr (c := 5) (i := 0) dL_law_551 rfl ml_L_40 (by first | exact hV.v5 | assumption | exact J.v3 | exact J.v4 | exact J.v5 | exact J.v6 | exact J.l0 | exact J.l1 | exact J.l2 | exact J.l3 | exact J.row (by assumption) | exact J.ops (by assumption) | exact J.job (by assumption)) (by decide) (t_placed hV h hm hroom) (by decide) (by decide) (Nat.le_of_ble_eq_true rfl) rfl ?_
  have hl0 := u_len h hm
  by_cases c0 : (x.2.2 (4 + m)).length = 0
  · refine bq_if_le (tgt := 615) dL_law_554 (by decide) (fun c_554 => ?_) (fun z9_ => absurd (show nI (x.2.2 (4 + m)).length ≤ 0 by rw [c0]; decide) z9_)
    refine bq_lvs (lv' := [(0, .ref (bp_sb G)), (1, .ref (bt_ad α 5 0)), (2, .ref (bt_ad α 8 35)), (3, .ref (bt_ad α 8 36)), (4, .ref (bt_ad α 8 37)), (5, .ref (bt_ad α 8 38)), (6, .ref (bt_ad α 8 39)), (7, .int (nI (b_nm σ))), (8, .int (nI (b_nj σ))), (9, .int (nI t)), (13, .int (nI 1))]) ⟨rfl, rfl, rfl, rfl, rfl, rfl, rfl, rfl, rfl, rfl, rfl, trivial⟩ ?_
    exact tl _ _ _ hV h hL (Nat.le_add_right _ _)
  · refine bq_if_le (tgt := 615) dL_law_554 (by decide) (fun z9_ => absurd z9_ (nI_nle (by omega) (by omega))) (fun c_554 => ?_)
    refine bq_iload (i := 11) dL_law_557 rfl ?_
    refine bq_iload (i := 7) dL_law_559 rfl ?_
    refine bq_callSr dL_law_561 ml_L_57 (u_lowx (n := b_nm σ) (by omega) (by omega)) (by decide) (by decide) (Nat.le_of_ble_eq_true rfl) rfl ?_
    rw [em]
    obtain ⟨i, hi⟩ : ∃ i, (x.2.2 (4 + m))[0]? = some i := ⟨_, List.getElem?_eq_getElem (by omega)⟩
    have hi32 : i < 32 := by have := u_nj8 h; have := (((h.1.2.1.1 m hm).2 i (List.mem_of_getElem? hi)).1).1; omega
    refine bq_istore (i := 14) dL_law_564 (by decide) ?_
    refine bq_aload_n (i := 1) dL_law_566 rfl ?_
    refine bq_iload (i := 14) dL_law_567 rfl ?_
    refine bq_iconst (v := (nI 0)) dL_law_569 (by decide) ?_
    refine bt_callVr (c := 5) (i := 0) dL_law_570 rfl ml_L_43 (by first | exact hV.v5 | assumption | exact J.v3 | exact J.v4 | exact J.v5 | exact J.v6 | exact J.l0 | exact J.l1 | exact J.l2 | exact J.l3 | exact J.row (by assumption) | exact J.ops (by assumption) | exact J.job (by assumption)) (by decide) (t_plAt hV h hm hi hroom) (by decide) (by decide) (Nat.le_of_ble_eq_true rfl) rfl ?_
    refine bq_istore (i := 15) dL_law_573 (by decide) ?_
    refine bq_aload_n (i := 1) dL_law_575 rfl ?_
    refine bq_iload (i := 14) dL_law_576 rfl ?_
    refine bq_iconst (v := (nI 2)) dL_law_578 (by decide) ?_
    refine bq_iload (i := 11) dL_law_579 rfl ?_
    refine bq_iconst (v := (nI 4)) dL_law_581 (by decide) ?_
    refine bq_ishr dL_law_582 ?_
    refine bq_bipush (v := (nI 7)) dL_law_583 (by decide) ?_
    refine bq_callSr dL_law_585 ml_L_57 (u_lowx (n := 7) (by omega) (by omega)) (by decide) (by decide) (Nat.le_of_ble_eq_true rfl) rfl ?_
    show bq_W _ _ _ _ _ (.int (nI (u_lw _ 7)) :: _) _ _
    obtain ⟨r, er, hr⟩ := u_lwE _ 7 (by omega)
    rw [er]
    refine bq_iadd dL_law_588 ?_
    rw [nI_add]
    obtain ⟨u, σ1, x1, σ2, x2, hS, hgo, hV2, h2, hL2, hls, ⟨dv, hu, hd1, hd2⟩, hrw⟩ := t_setMag (G := G) hV h hL hm (c := 2 + r) (by omega) (by omega) hroom
    have em2 : b_nm σ2 = b_nm σ := by unfold b_nm; rw [hls]
    have hi2 : (x2.2.2 (4 + m))[0]? = some i := by rw [hrw]; exact hi
    refine bt_callVr (c := 5) (i := 0) dL_law_589 rfl ml_L_90 hV.v5 (by decide) hS (by decide) (by decide) (Nat.le_of_ble_eq_true rfl) rfl ?_
    refine hgo _ _ _ _ _ _ ?_
    rw [hu]
    refine bq_iconst (v := (nI 1)) dL_law_592 (by decide) ?_
    refine bq_icmp_lt (tgt := 612) dL_law_593 (by decide) (fun z9_ => absurd z9_ (nI_nlt hd1 (by omega))) (fun c_593 => ?_)
    refine bq_aload_n (i := 1) dL_law_596 rfl ?_
    refine bq_iload (i := 14) dL_law_597 rfl ?_
    refine bq_iconst (v := (nI 0)) dL_law_599 (by decide) ?_
    refine bt_callVr (c := 5) (i := 0) dL_law_600 rfl ml_L_43 (by first | exact hV.v5 | assumption | exact J.v3 | exact J.v4 | exact J.v5 | exact J.v6 | exact J.l0 | exact J.l1 | exact J.l2 | exact J.l3 | exact J.row (by assumption) | exact J.ops (by assumption) | exact J.job (by assumption)) (by decide) (t_plAt hV2 h2 (by rw [em2]; exact hm) hi2 hroom) (by decide) (by decide) (Nat.le_of_ble_eq_true rfl) rfl ?_
    refine bq_iload (i := 15) dL_law_603 rfl ?_
    refine bq_icmp_ne (tgt := 612) dL_law_605 (by decide) (fun z9_ => absurd rfl z9_) (fun c_605 => ?_)
    refine bq_iconst (v := (nI 1)) dL_law_608 (by decide) ?_
    refine bq_goto (tgt := 613) dL_law_609 (by decide) ?_
    refine bq_istore (i := 13) dL_law_613 (by decide) ?_
    have em : b_nm σ2 = b_nm σ := by unfold b_nm; rw [hls]
    have ej : b_nj σ2 = b_nj σ := by unfold b_nj; rw [hls]
    rw [← em, ← ej]
    refine bq_lvs (lv' := [(0, .ref (bp_sb G)), (1, .ref (bt_ad α 5 0)), (2, .ref (bt_ad α 8 35)), (3, .ref (bt_ad α 8 36)), (4, .ref (bt_ad α 8 37)), (5, .ref (bt_ad α 8 38)), (6, .ref (bt_ad α 8 39)), (7, .int (nI (b_nm σ2))), (8, .int (nI (b_nj σ2))), (9, .int (nI t)), (13, .int (nI 1))]) ⟨rfl, rfl, rfl, rfl, rfl, rfl, rfl, rfl, rfl, rfl, rfl, trivial⟩ ?_
    exact tl _ _ _ hV2 h2 hL2 (Nat.le_add_right _ _)
end ULW
