/-! ===== the law: one call ===== -/
section VLC
variable {G : bp_X} {α : bt_A} {σ x : bt_X} {i : Nat} {Φ : bp_O → bq_O → Prop}
theorem lg_cmp_self (a : Int64) : lg_cmp a a = 0 := by
  unfold lg_cmp
  simp
set_option maxRecDepth 100000 in
set_option maxHeartbeats 1000000 in
theorem l_0 (hL : i + 6 ≤ bp_sL G) (hn : bp_sL G < 2 ^ 31) (hV : z_V α σ) (h : v_Inv σ x) (hroom : bt_us α + 110 ≤ bp_max) (kk : ∀ α' σ' x', z_V α' σ' → v_Inv σ' x' → bt_us α' ≤ bt_us α + 110 → bq_W G mL_law 13 1453 [(0, .ref (bp_sb G)), (1, .ref (bt_ad α' 5 0)), (2, .ref (bt_ad α' 6 0)), (3, .ref (bt_ad α' 8 5)), (4, .int (nI i))] [] (bt α' σ' x') Φ) : bq_W G mL_law 13 144 [(0, .ref (bp_sb G)), (1, .ref (bt_ad α 5 0)), (2, .ref (bt_ad α 6 0)), (3, .ref (bt_ad α 8 5)), (4, .int (nI i))] [] (bt α σ x) Φ := by
  obtain ⟨Q, k, σ1, w, R, hA, hB, hC, hJ⟩ := y_addMachine (G := G)  hV h hroom
  refine bq_aload_n (i := 1) dL_law_144 rfl ?_
  refine bq_aload_n (i := 3) dL_law_145 rfl ?_
  refine bq_callS dL_law_146 ml_L_85 hA (by decide) (by decide) (Nat.le_of_ble_eq_true rfl) rfl (fun v w' hp => ?_) (fun E w' hp => ?_)
  · obtain ⟨α', hE, hQ, eo, rfl⟩ := hp
    cases eo
    obtain ⟨hV2, hI2, e3, e4⟩ := hC α' hQ
    rw [show bt_ad α 5 0 = bt_ad α' 5 0 from ((hE.1 _ _ hV.v5).2).symm, show bt_ad α 6 0 = bt_ad α' 6 0 from ((hE.1 _ _ hV.J6.v6).2).symm, show bt_ad α 8 5 = bt_ad α' 8 5 from ((hE.1 _ _ hV.out.1).2).symm]
    refine bq_istore (i := 5) dL_law_149 (by decide) ?_
    refine bq_lvs (lv' := [(0, .ref (bp_sb G)), (1, .ref (bt_ad α' 5 0)), (2, .ref (bt_ad α' 6 0)), (3, .ref (bt_ad α' 8 5)), (4, .int (nI i)), (5, .int k)]) ⟨rfl, rfl, rfl, rfl, rfl, rfl, trivial⟩ ?_
    refine bq_aload_n (i := 2) dL_law_151 rfl ?_
    refine bt_callVr (c := 6) (i := 0) dL_law_152 rfl ml_L_90 (hJ α' hQ).v6 (by decide) (hB α' hQ) (by decide) (by decide) (Nat.le_of_ble_eq_true rfl) rfl ?_
    refine bq_istore (i := 6) dL_law_155 (by decide) ?_
    refine bq_lvs (lv' := [(0, .ref (bp_sb G)), (1, .ref (bt_ad α' 5 0)), (2, .ref (bt_ad α' 6 0)), (3, .ref (bt_ad α' 8 5)), (4, .int (nI i)), (5, .int k), (6, .int R.1)]) ⟨rfl, rfl, rfl, rfl, rfl, rfl, rfl, trivial⟩ ?_
    refine bq_aload_n (i := 2) dL_law_157 rfl ?_
    refine bt_callVr (c := 6) (i := 0) dL_law_158 rfl ml_L_91 (hJ α' hQ).v6 (by decide) (n_thrown (hJ α' hQ)) (by decide) (by decide) (Nat.le_of_ble_eq_true rfl) rfl ?_
    refine bq_iload (i := 5) dL_law_161 rfl ?_
    refine bq_icmp_eq (tgt := 168) dL_law_163 (by decide) (fun _ => ?_) (fun c => absurd e3 c)
    refine bq_iload (i := 5) dL_law_168 rfl ?_
    have fin : bq_W G mL_law 13 185 [(0, .ref (bp_sb G)), (1, .ref (bt_ad α' 5 0)), (2, .ref (bt_ad α' 6 0)), (3, .ref (bt_ad α' 8 5)), (4, .int (nI i)), (5, .int k), (6, .int R.1)] [] (bt α' R.2.1 R.2.2) Φ := by
      refine bq_goto (tgt := 1453) dL_law_185 (by decide) ?_
      refine bq_lvs (lv' := [(0, .ref (bp_sb G)), (1, .ref (bt_ad α' 5 0)), (2, .ref (bt_ad α' 6 0)), (3, .ref (bt_ad α' 8 5)), (4, .int (nI i))]) ⟨rfl, rfl, rfl, rfl, rfl, trivial⟩ ?_
      exact kk α' _ _ hV2 hI2 hE.2.2.2
    refine bq_if_ne (tgt := 185) dL_law_170 (by decide) (fun _ => fin) (fun c => ?_)
    refine bq_aload_n (i := 3) dL_law_173 rfl ?_
    refine bq_iconst (v := (nI 0)) dL_law_174 (by decide) ?_
    refine bt_lald1 (n := 5) (j := 0) (len := 1) dL_law_175 hV2.out rfl (by decide) (by decide) rfl ?_
    rw [e4 c]
    refine bq_iload (i := 6) dL_law_176 rfl ?_
    refine bq_i2l dL_law_178 ?_
    refine bq_lcmp dL_law_179 ?_
    refine bq_if_eq (tgt := 185) dL_law_180 (by decide) (fun _ => fin) (fun c => absurd (lg_cmp_self _) c)
  · obtain ⟨_, _, _, e, _⟩ := hp
    cases e
set_option maxRecDepth 100000 in
set_option maxHeartbeats 1000000 in
theorem l_1 (hL : i + 6 ≤ bp_sL G) (hn : bp_sL G < 2 ^ 31) (hV : z_V α σ) (h : v_Inv σ x) (hroom : bt_us α + 110 ≤ bp_max) (kk : ∀ α' σ' x', z_V α' σ' → v_Inv σ' x' → bt_us α' ≤ bt_us α + 110 → bq_W G mL_law 13 1453 [(0, .ref (bp_sb G)), (1, .ref (bt_ad α' 5 0)), (2, .ref (bt_ad α' 6 0)), (3, .ref (bt_ad α' 8 5)), (4, .int (nI i))] [] (bt α' σ' x') Φ) : bq_W G mL_law 13 188 [(0, .ref (bp_sb G)), (1, .ref (bt_ad α 5 0)), (2, .ref (bt_ad α 6 0)), (3, .ref (bt_ad α 8 5)), (4, .int (nI i))] [] (bt α σ x) Φ := by
  obtain ⟨Q, k, σ1, w, R, hA, hB, hC, hJ⟩ := y_setMagazine (G := G) (p0 := bp_xs G (i + 1)) (p1 := bp_xs G (i + 2)) hV h hroom
  refine bq_aload_n (i := 1) dL_law_188 rfl ?_
  refine bq_aload_n (i := 0) dL_law_189 rfl ?_
  refine bq_iload (i := 4) dL_law_190 rfl ?_
  refine bq_iconst (v := (nI 1)) dL_law_192 (by decide) ?_
  refine bq_iadd dL_law_193 ?_
  rw [nI_add]
  refine bq_sld (j := i + 1) dL_law_194 rfl (by omega) hn ?_
  refine bq_aload_n (i := 0) dL_law_195 rfl ?_
  refine bq_iload (i := 4) dL_law_196 rfl ?_
  refine bq_iconst (v := (nI 2)) dL_law_198 (by decide) ?_
  refine bq_iadd dL_law_199 ?_
  rw [nI_add]
  refine bq_sld (j := i + 2) dL_law_200 rfl (by omega) hn ?_
  refine bq_aload_n (i := 3) dL_law_201 rfl ?_
  refine bq_callS dL_law_202 ml_L_94 hA (by decide) (by decide) (Nat.le_of_ble_eq_true rfl) rfl (fun v w' hp => ?_) (fun E w' hp => ?_)
  · obtain ⟨α', hE, hQ, eo, rfl⟩ := hp
    cases eo
    obtain ⟨hV2, hI2, e3, e4⟩ := hC α' hQ
    rw [show bt_ad α 5 0 = bt_ad α' 5 0 from ((hE.1 _ _ hV.v5).2).symm, show bt_ad α 6 0 = bt_ad α' 6 0 from ((hE.1 _ _ hV.J6.v6).2).symm, show bt_ad α 8 5 = bt_ad α' 8 5 from ((hE.1 _ _ hV.out.1).2).symm]
    refine bq_istore (i := 5) dL_law_205 (by decide) ?_
    refine bq_lvs (lv' := [(0, .ref (bp_sb G)), (1, .ref (bt_ad α' 5 0)), (2, .ref (bt_ad α' 6 0)), (3, .ref (bt_ad α' 8 5)), (4, .int (nI i)), (5, .int k)]) ⟨rfl, rfl, rfl, rfl, rfl, rfl, trivial⟩ ?_
    refine bq_aload_n (i := 2) dL_law_207 rfl ?_
    refine bq_aload_n (i := 0) dL_law_208 rfl ?_
    refine bq_iload (i := 4) dL_law_209 rfl ?_
    refine bq_iconst (v := (nI 1)) dL_law_211 (by decide) ?_
    refine bq_iadd dL_law_212 ?_
    rw [nI_add]
    refine bq_sld (j := i + 1) dL_law_213 rfl (by omega) hn ?_
    refine bq_aload_n (i := 0) dL_law_214 rfl ?_
    refine bq_iload (i := 4) dL_law_215 rfl ?_
    refine bq_iconst (v := (nI 2)) dL_law_217 (by decide) ?_
    refine bq_iadd dL_law_218 ?_
    rw [nI_add]
    refine bq_sld (j := i + 2) dL_law_219 rfl (by omega) hn ?_
    refine bt_callVr (c := 6) (i := 0) dL_law_220 rfl ml_L_97 (hJ α' hQ).v6 (by decide) (hB α' hQ) (by decide) (by decide) (Nat.le_of_ble_eq_true rfl) rfl ?_
    refine bq_istore (i := 6) dL_law_223 (by decide) ?_
    refine bq_lvs (lv' := [(0, .ref (bp_sb G)), (1, .ref (bt_ad α' 5 0)), (2, .ref (bt_ad α' 6 0)), (3, .ref (bt_ad α' 8 5)), (4, .int (nI i)), (5, .int k), (6, .int R.1)]) ⟨rfl, rfl, rfl, rfl, rfl, rfl, rfl, trivial⟩ ?_
    refine bq_aload_n (i := 2) dL_law_225 rfl ?_
    refine bt_callVr (c := 6) (i := 0) dL_law_226 rfl ml_L_91 (hJ α' hQ).v6 (by decide) (n_thrown (hJ α' hQ)) (by decide) (by decide) (Nat.le_of_ble_eq_true rfl) rfl ?_
    refine bq_iload (i := 5) dL_law_229 rfl ?_
    refine bq_icmp_eq (tgt := 236) dL_law_231 (by decide) (fun _ => ?_) (fun c => absurd e3 c)
    refine bq_iload (i := 5) dL_law_236 rfl ?_
    have fin : bq_W G mL_law 13 253 [(0, .ref (bp_sb G)), (1, .ref (bt_ad α' 5 0)), (2, .ref (bt_ad α' 6 0)), (3, .ref (bt_ad α' 8 5)), (4, .int (nI i)), (5, .int k), (6, .int R.1)] [] (bt α' R.2.1 R.2.2) Φ := by
      refine bq_goto (tgt := 1453) dL_law_253 (by decide) ?_
      refine bq_lvs (lv' := [(0, .ref (bp_sb G)), (1, .ref (bt_ad α' 5 0)), (2, .ref (bt_ad α' 6 0)), (3, .ref (bt_ad α' 8 5)), (4, .int (nI i))]) ⟨rfl, rfl, rfl, rfl, rfl, trivial⟩ ?_
      exact kk α' _ _ hV2 hI2 hE.2.2.2
    refine bq_if_ne (tgt := 253) dL_law_238 (by decide) (fun _ => fin) (fun c => ?_)
    refine bq_aload_n (i := 3) dL_law_241 rfl ?_
    refine bq_iconst (v := (nI 0)) dL_law_242 (by decide) ?_
    refine bt_lald1 (n := 5) (j := 0) (len := 1) dL_law_243 hV2.out rfl (by decide) (by decide) rfl ?_
    rw [e4 c]
    refine bq_iload (i := 6) dL_law_244 rfl ?_
    refine bq_i2l dL_law_246 ?_
    refine bq_lcmp dL_law_247 ?_
    refine bq_if_eq (tgt := 253) dL_law_248 (by decide) (fun _ => fin) (fun c => absurd (lg_cmp_self _) c)
  · obtain ⟨_, _, _, e, _⟩ := hp
    cases e
set_option maxRecDepth 100000 in
set_option maxHeartbeats 1000000 in
theorem l_2 (hL : i + 6 ≤ bp_sL G) (hn : bp_sL G < 2 ^ 31) (hV : z_V α σ) (h : v_Inv σ x) (hroom : bt_us α + 110 ≤ bp_max) (kk : ∀ α' σ' x', z_V α' σ' → v_Inv σ' x' → bt_us α' ≤ bt_us α + 110 → bq_W G mL_law 13 1453 [(0, .ref (bp_sb G)), (1, .ref (bt_ad α' 5 0)), (2, .ref (bt_ad α' 6 0)), (3, .ref (bt_ad α' 8 5)), (4, .int (nI i))] [] (bt α' σ' x') Φ) : bq_W G mL_law 13 256 [(0, .ref (bp_sb G)), (1, .ref (bt_ad α 5 0)), (2, .ref (bt_ad α 6 0)), (3, .ref (bt_ad α 8 5)), (4, .int (nI i))] [] (bt α σ x) Φ := by
  obtain ⟨Q, k, σ1, w, R, hA, hB, hC, hJ⟩ := y_breakdown (G := G) (p0 := bp_xs G (i + 1)) (p1 := bp_xs G (i + 2)) (p2 := bp_xs G (i + 3)) hV h hroom
  refine bq_aload_n (i := 1) dL_law_256 rfl ?_
  refine bq_aload_n (i := 0) dL_law_257 rfl ?_
  refine bq_iload (i := 4) dL_law_258 rfl ?_
  refine bq_iconst (v := (nI 1)) dL_law_260 (by decide) ?_
  refine bq_iadd dL_law_261 ?_
  rw [nI_add]
  refine bq_sld (j := i + 1) dL_law_262 rfl (by omega) hn ?_
  refine bq_aload_n (i := 0) dL_law_263 rfl ?_
  refine bq_iload (i := 4) dL_law_264 rfl ?_
  refine bq_iconst (v := (nI 2)) dL_law_266 (by decide) ?_
  refine bq_iadd dL_law_267 ?_
  rw [nI_add]
  refine bq_sld (j := i + 2) dL_law_268 rfl (by omega) hn ?_
  refine bq_aload_n (i := 0) dL_law_269 rfl ?_
  refine bq_iload (i := 4) dL_law_270 rfl ?_
  refine bq_iconst (v := (nI 3)) dL_law_272 (by decide) ?_
  refine bq_iadd dL_law_273 ?_
  rw [nI_add]
  refine bq_sld (j := i + 3) dL_law_274 rfl (by omega) hn ?_
  refine bq_aload_n (i := 3) dL_law_275 rfl ?_
  refine bq_callS dL_law_276 ml_L_98 hA (by decide) (by decide) (Nat.le_of_ble_eq_true rfl) rfl (fun v w' hp => ?_) (fun E w' hp => ?_)
  · obtain ⟨α', hE, hQ, eo, rfl⟩ := hp
    cases eo
    obtain ⟨hV2, hI2, e3, e4⟩ := hC α' hQ
    rw [show bt_ad α 5 0 = bt_ad α' 5 0 from ((hE.1 _ _ hV.v5).2).symm, show bt_ad α 6 0 = bt_ad α' 6 0 from ((hE.1 _ _ hV.J6.v6).2).symm, show bt_ad α 8 5 = bt_ad α' 8 5 from ((hE.1 _ _ hV.out.1).2).symm]
    refine bq_istore (i := 5) dL_law_279 (by decide) ?_
    refine bq_lvs (lv' := [(0, .ref (bp_sb G)), (1, .ref (bt_ad α' 5 0)), (2, .ref (bt_ad α' 6 0)), (3, .ref (bt_ad α' 8 5)), (4, .int (nI i)), (5, .int k)]) ⟨rfl, rfl, rfl, rfl, rfl, rfl, trivial⟩ ?_
    refine bq_aload_n (i := 2) dL_law_281 rfl ?_
    refine bq_aload_n (i := 0) dL_law_282 rfl ?_
    refine bq_iload (i := 4) dL_law_283 rfl ?_
    refine bq_iconst (v := (nI 1)) dL_law_285 (by decide) ?_
    refine bq_iadd dL_law_286 ?_
    rw [nI_add]
    refine bq_sld (j := i + 1) dL_law_287 rfl (by omega) hn ?_
    refine bq_aload_n (i := 0) dL_law_288 rfl ?_
    refine bq_iload (i := 4) dL_law_289 rfl ?_
    refine bq_iconst (v := (nI 2)) dL_law_291 (by decide) ?_
    refine bq_iadd dL_law_292 ?_
    rw [nI_add]
    refine bq_sld (j := i + 2) dL_law_293 rfl (by omega) hn ?_
    refine bq_aload_n (i := 0) dL_law_294 rfl ?_
    refine bq_iload (i := 4) dL_law_295 rfl ?_
    refine bq_iconst (v := (nI 3)) dL_law_297 (by decide) ?_
    refine bq_iadd dL_law_298 ?_
    rw [nI_add]
    refine bq_sld (j := i + 3) dL_law_299 rfl (by omega) hn ?_
    refine bt_callVr (c := 6) (i := 0) dL_law_300 rfl ml_L_101 (hJ α' hQ).v6 (by decide) (hB α' hQ) (by decide) (by decide) (Nat.le_of_ble_eq_true rfl) rfl ?_
    refine bq_istore (i := 6) dL_law_303 (by decide) ?_
    refine bq_lvs (lv' := [(0, .ref (bp_sb G)), (1, .ref (bt_ad α' 5 0)), (2, .ref (bt_ad α' 6 0)), (3, .ref (bt_ad α' 8 5)), (4, .int (nI i)), (5, .int k), (6, .int R.1)]) ⟨rfl, rfl, rfl, rfl, rfl, rfl, rfl, trivial⟩ ?_
    refine bq_aload_n (i := 2) dL_law_305 rfl ?_
    refine bt_callVr (c := 6) (i := 0) dL_law_306 rfl ml_L_91 (hJ α' hQ).v6 (by decide) (n_thrown (hJ α' hQ)) (by decide) (by decide) (Nat.le_of_ble_eq_true rfl) rfl ?_
    refine bq_iload (i := 5) dL_law_309 rfl ?_
    refine bq_icmp_eq (tgt := 316) dL_law_311 (by decide) (fun _ => ?_) (fun c => absurd e3 c)
    refine bq_iload (i := 5) dL_law_316 rfl ?_
    have fin : bq_W G mL_law 13 333 [(0, .ref (bp_sb G)), (1, .ref (bt_ad α' 5 0)), (2, .ref (bt_ad α' 6 0)), (3, .ref (bt_ad α' 8 5)), (4, .int (nI i)), (5, .int k), (6, .int R.1)] [] (bt α' R.2.1 R.2.2) Φ := by
      refine bq_goto (tgt := 1453) dL_law_333 (by decide) ?_
      refine bq_lvs (lv' := [(0, .ref (bp_sb G)), (1, .ref (bt_ad α' 5 0)), (2, .ref (bt_ad α' 6 0)), (3, .ref (bt_ad α' 8 5)), (4, .int (nI i))]) ⟨rfl, rfl, rfl, rfl, rfl, trivial⟩ ?_
      exact kk α' _ _ hV2 hI2 hE.2.2.2
    refine bq_if_ne (tgt := 333) dL_law_318 (by decide) (fun _ => fin) (fun c => ?_)
    refine bq_aload_n (i := 3) dL_law_321 rfl ?_
    refine bq_iconst (v := (nI 0)) dL_law_322 (by decide) ?_
    refine bt_lald1 (n := 5) (j := 0) (len := 1) dL_law_323 hV2.out rfl (by decide) (by decide) rfl ?_
    rw [e4 c]
    refine bq_iload (i := 6) dL_law_324 rfl ?_
    refine bq_i2l dL_law_326 ?_
    refine bq_lcmp dL_law_327 ?_
    refine bq_if_eq (tgt := 333) dL_law_328 (by decide) (fun _ => fin) (fun c => absurd (lg_cmp_self _) c)
  · obtain ⟨_, _, _, e, _⟩ := hp
    cases e
set_option maxRecDepth 100000 in
set_option maxHeartbeats 1000000 in
theorem l_3 (hL : i + 6 ≤ bp_sL G) (hn : bp_sL G < 2 ^ 31) (hV : z_V α σ) (h : v_Inv σ x) (hroom : bt_us α + 110 ≤ bp_max) (kk : ∀ α' σ' x', z_V α' σ' → v_Inv σ' x' → bt_us α' ≤ bt_us α + 110 → bq_W G mL_law 13 1453 [(0, .ref (bp_sb G)), (1, .ref (bt_ad α' 5 0)), (2, .ref (bt_ad α' 6 0)), (3, .ref (bt_ad α' 8 5)), (4, .int (nI i))] [] (bt α' σ' x') Φ) : bq_W G mL_law 13 336 [(0, .ref (bp_sb G)), (1, .ref (bt_ad α 5 0)), (2, .ref (bt_ad α 6 0)), (3, .ref (bt_ad α 8 5)), (4, .int (nI i))] [] (bt α σ x) Φ := by
  obtain ⟨Q, k, σ1, w, R, hA, hB, hC, hJ, hb⟩ := y_repair (G := G) (p0 := bp_xs G (i + 1)) hV h hroom
  refine bq_aload_n (i := 1) dL_law_336 rfl ?_
  refine bq_aload_n (i := 0) dL_law_337 rfl ?_
  refine bq_iload (i := 4) dL_law_338 rfl ?_
  refine bq_iconst (v := (nI 1)) dL_law_340 (by decide) ?_
  refine bq_iadd dL_law_341 ?_
  rw [nI_add]
  refine bq_sld (j := i + 1) dL_law_342 rfl (by omega) hn ?_
  refine bq_aload_n (i := 3) dL_law_343 rfl ?_
  refine bq_callS dL_law_344 ml_L_102 hA (by decide) (by decide) (Nat.le_of_ble_eq_true rfl) rfl (fun v w' hp => ?_) (fun E w' hp => ?_)
  · obtain ⟨α', hE, hQ, eo, rfl⟩ := hp
    cases eo
    obtain ⟨hV2, hI2, e3, e4⟩ := hC α' hQ
    rw [show bt_ad α 5 0 = bt_ad α' 5 0 from ((hE.1 _ _ hV.v5).2).symm, show bt_ad α 6 0 = bt_ad α' 6 0 from ((hE.1 _ _ hV.J6.v6).2).symm, show bt_ad α 8 5 = bt_ad α' 8 5 from ((hE.1 _ _ hV.out.1).2).symm]
    refine bq_istore (i := 5) dL_law_347 (by decide) ?_
    refine bq_lvs (lv' := [(0, .ref (bp_sb G)), (1, .ref (bt_ad α' 5 0)), (2, .ref (bt_ad α' 6 0)), (3, .ref (bt_ad α' 8 5)), (4, .int (nI i)), (5, .int k)]) ⟨rfl, rfl, rfl, rfl, rfl, rfl, trivial⟩ ?_
    refine bq_aload_n (i := 2) dL_law_349 rfl ?_
    refine bq_aload_n (i := 0) dL_law_350 rfl ?_
    refine bq_iload (i := 4) dL_law_351 rfl ?_
    refine bq_iconst (v := (nI 1)) dL_law_353 (by decide) ?_
    refine bq_iadd dL_law_354 ?_
    rw [nI_add]
    refine bq_sld (j := i + 1) dL_law_355 rfl (by omega) hn ?_
    refine bt_callVr (c := 6) (i := 0) dL_law_356 rfl ml_L_105 (hJ α' hQ).v6 (by decide) (hB α' hQ) (by decide) (by decide) (Nat.le_of_ble_eq_true rfl) rfl ?_
    refine bq_istore (i := 6) dL_law_359 (by decide) ?_
    refine bq_lvs (lv' := [(0, .ref (bp_sb G)), (1, .ref (bt_ad α' 5 0)), (2, .ref (bt_ad α' 6 0)), (3, .ref (bt_ad α' 8 5)), (4, .int (nI i)), (5, .int k), (6, .int R.1)]) ⟨rfl, rfl, rfl, rfl, rfl, rfl, rfl, trivial⟩ ?_
    refine bq_aload_n (i := 2) dL_law_361 rfl ?_
    refine bt_callVr (c := 6) (i := 0) dL_law_362 rfl ml_L_91 (hJ α' hQ).v6 (by decide) (n_thrown (hJ α' hQ)) (by decide) (by decide) (Nat.le_of_ble_eq_true rfl) rfl ?_
    refine bq_iload (i := 5) dL_law_365 rfl ?_
    refine bq_icmp_eq (tgt := 372) dL_law_367 (by decide) (fun _ => ?_) (fun c => absurd e3 c)
    refine bq_iload (i := 5) dL_law_372 rfl ?_
    have fin : bq_W G mL_law 13 396 [(0, .ref (bp_sb G)), (1, .ref (bt_ad α' 5 0)), (2, .ref (bt_ad α' 6 0)), (3, .ref (bt_ad α' 8 5)), (4, .int (nI i)), (5, .int k), (6, .int R.1)] [] (bt α' R.2.1 R.2.2) Φ := by
      refine bq_goto (tgt := 1453) dL_law_396 (by decide) ?_
      refine bq_lvs (lv' := [(0, .ref (bp_sb G)), (1, .ref (bt_ad α' 5 0)), (2, .ref (bt_ad α' 6 0)), (3, .ref (bt_ad α' 8 5)), (4, .int (nI i))]) ⟨rfl, rfl, rfl, rfl, rfl, trivial⟩ ?_
      exact kk α' _ _ hV2 hI2 hE.2.2.2
    refine bq_if_ne (tgt := 396) dL_law_374 (by decide) (fun _ => fin) (fun c => ?_)
    refine bq_aload_n (i := 3) dL_law_377 rfl ?_
    refine bq_iconst (v := (nI 0)) dL_law_378 (by decide) ?_
    refine bt_lald1 (n := 5) (j := 0) (len := 1) dL_law_379 hV2.out rfl (by decide) (by decide) rfl ?_
    rw [e4 c]
    refine bq_iload (i := 6) dL_law_380 rfl ?_
    rcases hb with hb | hb
    · rw [hb]
      refine bq_if_eq (tgt := 389) dL_law_382 (by decide) (fun _ => ?_) (fun c => absurd (show nI 0 = 0 from rfl) c)
      refine bq_lconst (v := 0) dL_law_389 rfl ?_
      refine bq_lcmp dL_law_390 ?_
      refine bq_if_eq (tgt := 396) dL_law_391 (by decide) (fun _ => ?_) (fun c => absurd (by decide +kernel) c)
      rw [hb] at fin
      exact fin
    · rw [hb]
      refine bq_if_eq (tgt := 389) dL_law_382 (by decide) (fun c => absurd c (by decide)) (fun _ => ?_)
      refine bq_lconst (v := 1) dL_law_385 rfl ?_
      refine bq_goto (tgt := 390) dL_law_386 (by decide) ?_
      refine bq_lcmp dL_law_390 ?_
      refine bq_if_eq (tgt := 396) dL_law_391 (by decide) (fun _ => ?_) (fun c => absurd (by decide +kernel) c)
      rw [hb] at fin
      exact fin
  · obtain ⟨_, _, _, e, _⟩ := hp
    cases e
set_option maxRecDepth 100000 in
set_option maxHeartbeats 1000000 in
theorem l_4 (hL : i + 6 ≤ bp_sL G) (hn : bp_sL G < 2 ^ 31) (hV : z_V α σ) (h : v_Inv σ x) (hroom : bt_us α + 110 ≤ bp_max) (kk : ∀ α' σ' x', z_V α' σ' → v_Inv σ' x' → bt_us α' ≤ bt_us α + 110 → bq_W G mL_law 13 1453 [(0, .ref (bp_sb G)), (1, .ref (bt_ad α' 5 0)), (2, .ref (bt_ad α' 6 0)), (3, .ref (bt_ad α' 8 5)), (4, .int (nI i))] [] (bt α' σ' x') Φ) : bq_W G mL_law 13 399 [(0, .ref (bp_sb G)), (1, .ref (bt_ad α 5 0)), (2, .ref (bt_ad α 6 0)), (3, .ref (bt_ad α 8 5)), (4, .int (nI i))] [] (bt α σ x) Φ := by
  obtain ⟨Q, k, σ1, w, R, hA, hB, hC, hJ⟩ := y_addJob (G := G) (p0 := bp_xs G (i + 1)) hV h hroom
  refine bq_aload_n (i := 1) dL_law_399 rfl ?_
  refine bq_aload_n (i := 0) dL_law_400 rfl ?_
  refine bq_iload (i := 4) dL_law_401 rfl ?_
  refine bq_iconst (v := (nI 1)) dL_law_403 (by decide) ?_
  refine bq_iadd dL_law_404 ?_
  rw [nI_add]
  refine bq_sld (j := i + 1) dL_law_405 rfl (by omega) hn ?_
  refine bq_aload_n (i := 3) dL_law_406 rfl ?_
  refine bq_callS dL_law_407 ml_L_106 hA (by decide) (by decide) (Nat.le_of_ble_eq_true rfl) rfl (fun v w' hp => ?_) (fun E w' hp => ?_)
  · obtain ⟨α', hE, hQ, eo, rfl⟩ := hp
    cases eo
    obtain ⟨hV2, hI2, e3, e4⟩ := hC α' hQ
    rw [show bt_ad α 5 0 = bt_ad α' 5 0 from ((hE.1 _ _ hV.v5).2).symm, show bt_ad α 6 0 = bt_ad α' 6 0 from ((hE.1 _ _ hV.J6.v6).2).symm, show bt_ad α 8 5 = bt_ad α' 8 5 from ((hE.1 _ _ hV.out.1).2).symm]
    refine bq_istore (i := 5) dL_law_410 (by decide) ?_
    refine bq_lvs (lv' := [(0, .ref (bp_sb G)), (1, .ref (bt_ad α' 5 0)), (2, .ref (bt_ad α' 6 0)), (3, .ref (bt_ad α' 8 5)), (4, .int (nI i)), (5, .int k)]) ⟨rfl, rfl, rfl, rfl, rfl, rfl, trivial⟩ ?_
    refine bq_aload_n (i := 2) dL_law_412 rfl ?_
    refine bq_aload_n (i := 0) dL_law_413 rfl ?_
    refine bq_iload (i := 4) dL_law_414 rfl ?_
    refine bq_iconst (v := (nI 1)) dL_law_416 (by decide) ?_
    refine bq_iadd dL_law_417 ?_
    rw [nI_add]
    refine bq_sld (j := i + 1) dL_law_418 rfl (by omega) hn ?_
    refine bt_callVr (c := 6) (i := 0) dL_law_419 rfl ml_L_108 (hJ α' hQ).v6 (by decide) (hB α' hQ) (by decide) (by decide) (Nat.le_of_ble_eq_true rfl) rfl ?_
    refine bq_istore (i := 6) dL_law_422 (by decide) ?_
    refine bq_lvs (lv' := [(0, .ref (bp_sb G)), (1, .ref (bt_ad α' 5 0)), (2, .ref (bt_ad α' 6 0)), (3, .ref (bt_ad α' 8 5)), (4, .int (nI i)), (5, .int k), (6, .int R.1)]) ⟨rfl, rfl, rfl, rfl, rfl, rfl, rfl, trivial⟩ ?_
    refine bq_aload_n (i := 2) dL_law_424 rfl ?_
    refine bt_callVr (c := 6) (i := 0) dL_law_425 rfl ml_L_91 (hJ α' hQ).v6 (by decide) (n_thrown (hJ α' hQ)) (by decide) (by decide) (Nat.le_of_ble_eq_true rfl) rfl ?_
    refine bq_iload (i := 5) dL_law_428 rfl ?_
    refine bq_icmp_eq (tgt := 435) dL_law_430 (by decide) (fun _ => ?_) (fun c => absurd e3 c)
    refine bq_iload (i := 5) dL_law_435 rfl ?_
    have fin : bq_W G mL_law 13 452 [(0, .ref (bp_sb G)), (1, .ref (bt_ad α' 5 0)), (2, .ref (bt_ad α' 6 0)), (3, .ref (bt_ad α' 8 5)), (4, .int (nI i)), (5, .int k), (6, .int R.1)] [] (bt α' R.2.1 R.2.2) Φ := by
      refine bq_goto (tgt := 1453) dL_law_452 (by decide) ?_
      refine bq_lvs (lv' := [(0, .ref (bp_sb G)), (1, .ref (bt_ad α' 5 0)), (2, .ref (bt_ad α' 6 0)), (3, .ref (bt_ad α' 8 5)), (4, .int (nI i))]) ⟨rfl, rfl, rfl, rfl, rfl, trivial⟩ ?_
      exact kk α' _ _ hV2 hI2 hE.2.2.2
    refine bq_if_ne (tgt := 452) dL_law_437 (by decide) (fun _ => fin) (fun c => ?_)
    refine bq_aload_n (i := 3) dL_law_440 rfl ?_
    refine bq_iconst (v := (nI 0)) dL_law_441 (by decide) ?_
    refine bt_lald1 (n := 5) (j := 0) (len := 1) dL_law_442 hV2.out rfl (by decide) (by decide) rfl ?_
    rw [e4 c]
    refine bq_iload (i := 6) dL_law_443 rfl ?_
    refine bq_i2l dL_law_445 ?_
    refine bq_lcmp dL_law_446 ?_
    refine bq_if_eq (tgt := 452) dL_law_447 (by decide) (fun _ => fin) (fun c => absurd (lg_cmp_self _) c)
  · obtain ⟨_, _, _, e, _⟩ := hp
    cases e
set_option maxRecDepth 100000 in
set_option maxHeartbeats 1000000 in
theorem l_5 (hL : i + 6 ≤ bp_sL G) (hn : bp_sL G < 2 ^ 31) (hV : z_V α σ) (h : v_Inv σ x) (hroom : bt_us α + 110 ≤ bp_max) (kk : ∀ α' σ' x', z_V α' σ' → v_Inv σ' x' → bt_us α' ≤ bt_us α + 110 → bq_W G mL_law 13 1453 [(0, .ref (bp_sb G)), (1, .ref (bt_ad α' 5 0)), (2, .ref (bt_ad α' 6 0)), (3, .ref (bt_ad α' 8 5)), (4, .int (nI i))] [] (bt α' σ' x') Φ) : bq_W G mL_law 13 455 [(0, .ref (bp_sb G)), (1, .ref (bt_ad α 5 0)), (2, .ref (bt_ad α 6 0)), (3, .ref (bt_ad α 8 5)), (4, .int (nI i))] [] (bt α σ x) Φ := by
  obtain ⟨Q, k, σ1, w, R, hA, hB, hC, hJ⟩ := y_addOperation (G := G) (p0 := bp_xs G (i + 1)) (p1 := bp_xs G (i + 2)) (p2 := bp_xs G (i + 3)) (p3 := bp_xs G (i + 4)) (p4 := bp_xs G (i + 5)) hV h hroom
  refine bq_aload_n (i := 1) dL_law_455 rfl ?_
  refine bq_aload_n (i := 0) dL_law_456 rfl ?_
  refine bq_iload (i := 4) dL_law_457 rfl ?_
  refine bq_iconst (v := (nI 1)) dL_law_459 (by decide) ?_
  refine bq_iadd dL_law_460 ?_
  rw [nI_add]
  refine bq_sld (j := i + 1) dL_law_461 rfl (by omega) hn ?_
  refine bq_aload_n (i := 0) dL_law_462 rfl ?_
  refine bq_iload (i := 4) dL_law_463 rfl ?_
  refine bq_iconst (v := (nI 2)) dL_law_465 (by decide) ?_
  refine bq_iadd dL_law_466 ?_
  rw [nI_add]
  refine bq_sld (j := i + 2) dL_law_467 rfl (by omega) hn ?_
  refine bq_aload_n (i := 0) dL_law_468 rfl ?_
  refine bq_iload (i := 4) dL_law_469 rfl ?_
  refine bq_iconst (v := (nI 3)) dL_law_471 (by decide) ?_
  refine bq_iadd dL_law_472 ?_
  rw [nI_add]
  refine bq_sld (j := i + 3) dL_law_473 rfl (by omega) hn ?_
  refine bq_aload_n (i := 0) dL_law_474 rfl ?_
  refine bq_iload (i := 4) dL_law_475 rfl ?_
  refine bq_iconst (v := (nI 4)) dL_law_477 (by decide) ?_
  refine bq_iadd dL_law_478 ?_
  rw [nI_add]
  refine bq_sld (j := i + 4) dL_law_479 rfl (by omega) hn ?_
  refine bq_aload_n (i := 0) dL_law_480 rfl ?_
  refine bq_iload (i := 4) dL_law_481 rfl ?_
  refine bq_iconst (v := (nI 5)) dL_law_483 (by decide) ?_
  refine bq_iadd dL_law_484 ?_
  rw [nI_add]
  refine bq_sld (j := i + 5) dL_law_485 rfl (by omega) hn ?_
  refine bq_aload_n (i := 3) dL_law_486 rfl ?_
  refine bq_callS dL_law_487 ml_L_109 hA (by decide) (by decide) (Nat.le_of_ble_eq_true rfl) rfl (fun v w' hp => ?_) (fun E w' hp => ?_)
  · obtain ⟨α', hE, hQ, eo, rfl⟩ := hp
    cases eo
    obtain ⟨hV2, hI2, e3, e4⟩ := hC α' hQ
    rw [show bt_ad α 5 0 = bt_ad α' 5 0 from ((hE.1 _ _ hV.v5).2).symm, show bt_ad α 6 0 = bt_ad α' 6 0 from ((hE.1 _ _ hV.J6.v6).2).symm, show bt_ad α 8 5 = bt_ad α' 8 5 from ((hE.1 _ _ hV.out.1).2).symm]
    refine bq_istore (i := 5) dL_law_490 (by decide) ?_
    refine bq_lvs (lv' := [(0, .ref (bp_sb G)), (1, .ref (bt_ad α' 5 0)), (2, .ref (bt_ad α' 6 0)), (3, .ref (bt_ad α' 8 5)), (4, .int (nI i)), (5, .int k)]) ⟨rfl, rfl, rfl, rfl, rfl, rfl, trivial⟩ ?_
    refine bq_aload_n (i := 2) dL_law_492 rfl ?_
    refine bq_aload_n (i := 0) dL_law_493 rfl ?_
    refine bq_iload (i := 4) dL_law_494 rfl ?_
    refine bq_iconst (v := (nI 1)) dL_law_496 (by decide) ?_
    refine bq_iadd dL_law_497 ?_
    rw [nI_add]
    refine bq_sld (j := i + 1) dL_law_498 rfl (by omega) hn ?_
    refine bq_aload_n (i := 0) dL_law_499 rfl ?_
    refine bq_iload (i := 4) dL_law_500 rfl ?_
    refine bq_iconst (v := (nI 2)) dL_law_502 (by decide) ?_
    refine bq_iadd dL_law_503 ?_
    rw [nI_add]
    refine bq_sld (j := i + 2) dL_law_504 rfl (by omega) hn ?_
    refine bq_aload_n (i := 0) dL_law_505 rfl ?_
    refine bq_iload (i := 4) dL_law_506 rfl ?_
    refine bq_iconst (v := (nI 3)) dL_law_508 (by decide) ?_
    refine bq_iadd dL_law_509 ?_
    rw [nI_add]
    refine bq_sld (j := i + 3) dL_law_510 rfl (by omega) hn ?_
    refine bq_aload_n (i := 0) dL_law_511 rfl ?_
    refine bq_iload (i := 4) dL_law_512 rfl ?_
    refine bq_iconst (v := (nI 4)) dL_law_514 (by decide) ?_
    refine bq_iadd dL_law_515 ?_
    rw [nI_add]
    refine bq_sld (j := i + 4) dL_law_516 rfl (by omega) hn ?_
    refine bq_aload_n (i := 0) dL_law_517 rfl ?_
    refine bq_iload (i := 4) dL_law_518 rfl ?_
    refine bq_iconst (v := (nI 5)) dL_law_520 (by decide) ?_
    refine bq_iadd dL_law_521 ?_
    rw [nI_add]
    refine bq_sld (j := i + 5) dL_law_522 rfl (by omega) hn ?_
    refine bt_callVr (c := 6) (i := 0) dL_law_523 rfl ml_L_112 (hJ α' hQ).v6 (by decide) (hB α' hQ) (by decide) (by decide) (Nat.le_of_ble_eq_true rfl) rfl ?_
    refine bq_istore (i := 6) dL_law_526 (by decide) ?_
    refine bq_lvs (lv' := [(0, .ref (bp_sb G)), (1, .ref (bt_ad α' 5 0)), (2, .ref (bt_ad α' 6 0)), (3, .ref (bt_ad α' 8 5)), (4, .int (nI i)), (5, .int k), (6, .int R.1)]) ⟨rfl, rfl, rfl, rfl, rfl, rfl, rfl, trivial⟩ ?_
    refine bq_aload_n (i := 2) dL_law_528 rfl ?_
    refine bt_callVr (c := 6) (i := 0) dL_law_529 rfl ml_L_91 (hJ α' hQ).v6 (by decide) (n_thrown (hJ α' hQ)) (by decide) (by decide) (Nat.le_of_ble_eq_true rfl) rfl ?_
    refine bq_iload (i := 5) dL_law_532 rfl ?_
    refine bq_icmp_eq (tgt := 539) dL_law_534 (by decide) (fun _ => ?_) (fun c => absurd e3 c)
    refine bq_iload (i := 5) dL_law_539 rfl ?_
    have fin : bq_W G mL_law 13 556 [(0, .ref (bp_sb G)), (1, .ref (bt_ad α' 5 0)), (2, .ref (bt_ad α' 6 0)), (3, .ref (bt_ad α' 8 5)), (4, .int (nI i)), (5, .int k), (6, .int R.1)] [] (bt α' R.2.1 R.2.2) Φ := by
      refine bq_goto (tgt := 1453) dL_law_556 (by decide) ?_
      refine bq_lvs (lv' := [(0, .ref (bp_sb G)), (1, .ref (bt_ad α' 5 0)), (2, .ref (bt_ad α' 6 0)), (3, .ref (bt_ad α' 8 5)), (4, .int (nI i))]) ⟨rfl, rfl, rfl, rfl, rfl, trivial⟩ ?_
      exact kk α' _ _ hV2 hI2 hE.2.2.2
    refine bq_if_ne (tgt := 556) dL_law_541 (by decide) (fun _ => fin) (fun c => ?_)
    refine bq_aload_n (i := 3) dL_law_544 rfl ?_
    refine bq_iconst (v := (nI 0)) dL_law_545 (by decide) ?_
    refine bt_lald1 (n := 5) (j := 0) (len := 1) dL_law_546 hV2.out rfl (by decide) (by decide) rfl ?_
    rw [e4 c]
    refine bq_iload (i := 6) dL_law_547 rfl ?_
    refine bq_i2l dL_law_549 ?_
    refine bq_lcmp dL_law_550 ?_
    refine bq_if_eq (tgt := 556) dL_law_551 (by decide) (fun _ => fin) (fun c => absurd (lg_cmp_self _) c)
  · obtain ⟨_, _, _, e, _⟩ := hp
    cases e
set_option maxRecDepth 100000 in
set_option maxHeartbeats 1000000 in
theorem l_6 (hL : i + 6 ≤ bp_sL G) (hn : bp_sL G < 2 ^ 31) (hV : z_V α σ) (h : v_Inv σ x) (hroom : bt_us α + 110 ≤ bp_max) (kk : ∀ α' σ' x', z_V α' σ' → v_Inv σ' x' → bt_us α' ≤ bt_us α + 110 → bq_W G mL_law 13 1453 [(0, .ref (bp_sb G)), (1, .ref (bt_ad α' 5 0)), (2, .ref (bt_ad α' 6 0)), (3, .ref (bt_ad α' 8 5)), (4, .int (nI i))] [] (bt α' σ' x') Φ) : bq_W G mL_law 13 559 [(0, .ref (bp_sb G)), (1, .ref (bt_ad α 5 0)), (2, .ref (bt_ad α 6 0)), (3, .ref (bt_ad α 8 5)), (4, .int (nI i))] [] (bt α σ x) Φ := by
  obtain ⟨Q, k, σ1, w, R, hA, hB, hC, hJ⟩ := y_setSetup (G := G) (p0 := bp_xs G (i + 1)) (p1 := bp_xs G (i + 2)) (p2 := bp_xs G (i + 3)) hV h hroom
  refine bq_aload_n (i := 1) dL_law_559 rfl ?_
  refine bq_aload_n (i := 0) dL_law_560 rfl ?_
  refine bq_iload (i := 4) dL_law_561 rfl ?_
  refine bq_iconst (v := (nI 1)) dL_law_563 (by decide) ?_
  refine bq_iadd dL_law_564 ?_
  rw [nI_add]
  refine bq_sld (j := i + 1) dL_law_565 rfl (by omega) hn ?_
  refine bq_aload_n (i := 0) dL_law_566 rfl ?_
  refine bq_iload (i := 4) dL_law_567 rfl ?_
  refine bq_iconst (v := (nI 2)) dL_law_569 (by decide) ?_
  refine bq_iadd dL_law_570 ?_
  rw [nI_add]
  refine bq_sld (j := i + 2) dL_law_571 rfl (by omega) hn ?_
  refine bq_aload_n (i := 0) dL_law_572 rfl ?_
  refine bq_iload (i := 4) dL_law_573 rfl ?_
  refine bq_iconst (v := (nI 3)) dL_law_575 (by decide) ?_
  refine bq_iadd dL_law_576 ?_
  rw [nI_add]
  refine bq_sld (j := i + 3) dL_law_577 rfl (by omega) hn ?_
  refine bq_aload_n (i := 3) dL_law_578 rfl ?_
  refine bq_callS dL_law_579 ml_L_113 hA (by decide) (by decide) (Nat.le_of_ble_eq_true rfl) rfl (fun v w' hp => ?_) (fun E w' hp => ?_)
  · obtain ⟨α', hE, hQ, eo, rfl⟩ := hp
    cases eo
    obtain ⟨hV2, hI2, e3, e4⟩ := hC α' hQ
    rw [show bt_ad α 5 0 = bt_ad α' 5 0 from ((hE.1 _ _ hV.v5).2).symm, show bt_ad α 6 0 = bt_ad α' 6 0 from ((hE.1 _ _ hV.J6.v6).2).symm, show bt_ad α 8 5 = bt_ad α' 8 5 from ((hE.1 _ _ hV.out.1).2).symm]
    refine bq_istore (i := 5) dL_law_582 (by decide) ?_
    refine bq_lvs (lv' := [(0, .ref (bp_sb G)), (1, .ref (bt_ad α' 5 0)), (2, .ref (bt_ad α' 6 0)), (3, .ref (bt_ad α' 8 5)), (4, .int (nI i)), (5, .int k)]) ⟨rfl, rfl, rfl, rfl, rfl, rfl, trivial⟩ ?_
    refine bq_aload_n (i := 2) dL_law_584 rfl ?_
    refine bq_aload_n (i := 0) dL_law_585 rfl ?_
    refine bq_iload (i := 4) dL_law_586 rfl ?_
    refine bq_iconst (v := (nI 1)) dL_law_588 (by decide) ?_
    refine bq_iadd dL_law_589 ?_
    rw [nI_add]
    refine bq_sld (j := i + 1) dL_law_590 rfl (by omega) hn ?_
    refine bq_aload_n (i := 0) dL_law_591 rfl ?_
    refine bq_iload (i := 4) dL_law_592 rfl ?_
    refine bq_iconst (v := (nI 2)) dL_law_594 (by decide) ?_
    refine bq_iadd dL_law_595 ?_
    rw [nI_add]
    refine bq_sld (j := i + 2) dL_law_596 rfl (by omega) hn ?_
    refine bq_aload_n (i := 0) dL_law_597 rfl ?_
    refine bq_iload (i := 4) dL_law_598 rfl ?_
    refine bq_iconst (v := (nI 3)) dL_law_600 (by decide) ?_
    refine bq_iadd dL_law_601 ?_
    rw [nI_add]
    refine bq_sld (j := i + 3) dL_law_602 rfl (by omega) hn ?_
    refine bt_callVr (c := 6) (i := 0) dL_law_603 rfl ml_L_115 (hJ α' hQ).v6 (by decide) (hB α' hQ) (by decide) (by decide) (Nat.le_of_ble_eq_true rfl) rfl ?_
    refine bq_istore (i := 6) dL_law_606 (by decide) ?_
    refine bq_lvs (lv' := [(0, .ref (bp_sb G)), (1, .ref (bt_ad α' 5 0)), (2, .ref (bt_ad α' 6 0)), (3, .ref (bt_ad α' 8 5)), (4, .int (nI i)), (5, .int k), (6, .int R.1)]) ⟨rfl, rfl, rfl, rfl, rfl, rfl, rfl, trivial⟩ ?_
    refine bq_aload_n (i := 2) dL_law_608 rfl ?_
    refine bt_callVr (c := 6) (i := 0) dL_law_609 rfl ml_L_91 (hJ α' hQ).v6 (by decide) (n_thrown (hJ α' hQ)) (by decide) (by decide) (Nat.le_of_ble_eq_true rfl) rfl ?_
    refine bq_iload (i := 5) dL_law_612 rfl ?_
    refine bq_icmp_eq (tgt := 619) dL_law_614 (by decide) (fun _ => ?_) (fun c => absurd e3 c)
    refine bq_iload (i := 5) dL_law_619 rfl ?_
    have fin : bq_W G mL_law 13 636 [(0, .ref (bp_sb G)), (1, .ref (bt_ad α' 5 0)), (2, .ref (bt_ad α' 6 0)), (3, .ref (bt_ad α' 8 5)), (4, .int (nI i)), (5, .int k), (6, .int R.1)] [] (bt α' R.2.1 R.2.2) Φ := by
      refine bq_goto (tgt := 1453) dL_law_636 (by decide) ?_
      refine bq_lvs (lv' := [(0, .ref (bp_sb G)), (1, .ref (bt_ad α' 5 0)), (2, .ref (bt_ad α' 6 0)), (3, .ref (bt_ad α' 8 5)), (4, .int (nI i))]) ⟨rfl, rfl, rfl, rfl, rfl, trivial⟩ ?_
      exact kk α' _ _ hV2 hI2 hE.2.2.2
    refine bq_if_ne (tgt := 636) dL_law_621 (by decide) (fun _ => fin) (fun c => ?_)
    refine bq_aload_n (i := 3) dL_law_624 rfl ?_
    refine bq_iconst (v := (nI 0)) dL_law_625 (by decide) ?_
    refine bt_lald1 (n := 5) (j := 0) (len := 1) dL_law_626 hV2.out rfl (by decide) (by decide) rfl ?_
    rw [e4 c]
    refine bq_iload (i := 6) dL_law_627 rfl ?_
    refine bq_i2l dL_law_629 ?_
    refine bq_lcmp dL_law_630 ?_
    refine bq_if_eq (tgt := 636) dL_law_631 (by decide) (fun _ => fin) (fun c => absurd (lg_cmp_self _) c)
  · obtain ⟨_, _, _, e, _⟩ := hp
    cases e
set_option maxRecDepth 100000 in
set_option maxHeartbeats 1000000 in
theorem l_7 (hL : i + 6 ≤ bp_sL G) (hn : bp_sL G < 2 ^ 31) (hV : z_V α σ) (h : v_Inv σ x) (hroom : bt_us α + 110 ≤ bp_max) (kk : ∀ α' σ' x', z_V α' σ' → v_Inv σ' x' → bt_us α' ≤ bt_us α + 110 → bq_W G mL_law 13 1453 [(0, .ref (bp_sb G)), (1, .ref (bt_ad α' 5 0)), (2, .ref (bt_ad α' 6 0)), (3, .ref (bt_ad α' 8 5)), (4, .int (nI i))] [] (bt α' σ' x') Φ) : bq_W G mL_law 13 639 [(0, .ref (bp_sb G)), (1, .ref (bt_ad α 5 0)), (2, .ref (bt_ad α 6 0)), (3, .ref (bt_ad α 8 5)), (4, .int (nI i))] [] (bt α σ x) Φ := by
  obtain ⟨Q, k, σ1, w, R, hA, hB, hC, hJ⟩ := y_place (G := G) (p0 := bp_xs G (i + 1)) hV h hroom
  refine bq_aload_n (i := 1) dL_law_639 rfl ?_
  refine bq_aload_n (i := 0) dL_law_640 rfl ?_
  refine bq_iload (i := 4) dL_law_641 rfl ?_
  refine bq_iconst (v := (nI 1)) dL_law_643 (by decide) ?_
  refine bq_iadd dL_law_644 ?_
  rw [nI_add]
  refine bq_sld (j := i + 1) dL_law_645 rfl (by omega) hn ?_
  refine bq_aload_n (i := 3) dL_law_646 rfl ?_
  refine bq_callS dL_law_647 ml_L_116 hA (by decide) (by decide) (Nat.le_of_ble_eq_true rfl) rfl (fun v w' hp => ?_) (fun E w' hp => ?_)
  · obtain ⟨α', hE, hQ, eo, rfl⟩ := hp
    cases eo
    obtain ⟨hV2, hI2, e3, e4⟩ := hC α' hQ
    rw [show bt_ad α 5 0 = bt_ad α' 5 0 from ((hE.1 _ _ hV.v5).2).symm, show bt_ad α 6 0 = bt_ad α' 6 0 from ((hE.1 _ _ hV.J6.v6).2).symm, show bt_ad α 8 5 = bt_ad α' 8 5 from ((hE.1 _ _ hV.out.1).2).symm]
    refine bq_istore (i := 5) dL_law_650 (by decide) ?_
    refine bq_lvs (lv' := [(0, .ref (bp_sb G)), (1, .ref (bt_ad α' 5 0)), (2, .ref (bt_ad α' 6 0)), (3, .ref (bt_ad α' 8 5)), (4, .int (nI i)), (5, .int k)]) ⟨rfl, rfl, rfl, rfl, rfl, rfl, trivial⟩ ?_
    refine bq_aload_n (i := 2) dL_law_652 rfl ?_
    refine bq_aload_n (i := 0) dL_law_653 rfl ?_
    refine bq_iload (i := 4) dL_law_654 rfl ?_
    refine bq_iconst (v := (nI 1)) dL_law_656 (by decide) ?_
    refine bq_iadd dL_law_657 ?_
    rw [nI_add]
    refine bq_sld (j := i + 1) dL_law_658 rfl (by omega) hn ?_
    refine bt_callVr (c := 6) (i := 0) dL_law_659 rfl ml_L_118 (hJ α' hQ).v6 (by decide) (hB α' hQ) (by decide) (by decide) (Nat.le_of_ble_eq_true rfl) rfl ?_
    refine bq_istore (i := 6) dL_law_662 (by decide) ?_
    refine bq_lvs (lv' := [(0, .ref (bp_sb G)), (1, .ref (bt_ad α' 5 0)), (2, .ref (bt_ad α' 6 0)), (3, .ref (bt_ad α' 8 5)), (4, .int (nI i)), (5, .int k), (6, .int R.1)]) ⟨rfl, rfl, rfl, rfl, rfl, rfl, rfl, trivial⟩ ?_
    refine bq_aload_n (i := 2) dL_law_664 rfl ?_
    refine bt_callVr (c := 6) (i := 0) dL_law_665 rfl ml_L_91 (hJ α' hQ).v6 (by decide) (n_thrown (hJ α' hQ)) (by decide) (by decide) (Nat.le_of_ble_eq_true rfl) rfl ?_
    refine bq_iload (i := 5) dL_law_668 rfl ?_
    refine bq_icmp_eq (tgt := 675) dL_law_670 (by decide) (fun _ => ?_) (fun c => absurd e3 c)
    refine bq_iload (i := 5) dL_law_675 rfl ?_
    have fin : bq_W G mL_law 13 692 [(0, .ref (bp_sb G)), (1, .ref (bt_ad α' 5 0)), (2, .ref (bt_ad α' 6 0)), (3, .ref (bt_ad α' 8 5)), (4, .int (nI i)), (5, .int k), (6, .int R.1)] [] (bt α' R.2.1 R.2.2) Φ := by
      refine bq_goto (tgt := 1453) dL_law_692 (by decide) ?_
      refine bq_lvs (lv' := [(0, .ref (bp_sb G)), (1, .ref (bt_ad α' 5 0)), (2, .ref (bt_ad α' 6 0)), (3, .ref (bt_ad α' 8 5)), (4, .int (nI i))]) ⟨rfl, rfl, rfl, rfl, rfl, trivial⟩ ?_
      exact kk α' _ _ hV2 hI2 hE.2.2.2
    refine bq_if_ne (tgt := 692) dL_law_677 (by decide) (fun _ => fin) (fun c => ?_)
    refine bq_aload_n (i := 3) dL_law_680 rfl ?_
    refine bq_iconst (v := (nI 0)) dL_law_681 (by decide) ?_
    refine bt_lald1 (n := 5) (j := 0) (len := 1) dL_law_682 hV2.out rfl (by decide) (by decide) rfl ?_
    rw [e4 c]
    refine bq_iload (i := 6) dL_law_683 rfl ?_
    refine bq_i2l dL_law_685 ?_
    refine bq_lcmp dL_law_686 ?_
    refine bq_if_eq (tgt := 692) dL_law_687 (by decide) (fun _ => fin) (fun c => absurd (lg_cmp_self _) c)
  · obtain ⟨_, _, _, e, _⟩ := hp
    cases e
set_option maxRecDepth 100000 in
set_option maxHeartbeats 1000000 in
theorem l_8 (hL : i + 6 ≤ bp_sL G) (hn : bp_sL G < 2 ^ 31) (hV : z_V α σ) (h : v_Inv σ x) (hroom : bt_us α + 110 ≤ bp_max) (kk : ∀ α' σ' x', z_V α' σ' → v_Inv σ' x' → bt_us α' ≤ bt_us α + 110 → bq_W G mL_law 13 1453 [(0, .ref (bp_sb G)), (1, .ref (bt_ad α' 5 0)), (2, .ref (bt_ad α' 6 0)), (3, .ref (bt_ad α' 8 5)), (4, .int (nI i))] [] (bt α' σ' x') Φ) : bq_W G mL_law 13 695 [(0, .ref (bp_sb G)), (1, .ref (bt_ad α 5 0)), (2, .ref (bt_ad α 6 0)), (3, .ref (bt_ad α 8 5)), (4, .int (nI i))] [] (bt α σ x) Φ := by
  obtain ⟨Q, k, σ1, w, R, hA, hB, hC, hJ⟩ := y_rush (G := G) (p0 := bp_xs G (i + 1)) hV h hroom
  refine bq_aload_n (i := 1) dL_law_695 rfl ?_
  refine bq_aload_n (i := 0) dL_law_696 rfl ?_
  refine bq_iload (i := 4) dL_law_697 rfl ?_
  refine bq_iconst (v := (nI 1)) dL_law_699 (by decide) ?_
  refine bq_iadd dL_law_700 ?_
  rw [nI_add]
  refine bq_sld (j := i + 1) dL_law_701 rfl (by omega) hn ?_
  refine bq_aload_n (i := 3) dL_law_702 rfl ?_
  refine bq_callS dL_law_703 ml_L_119 hA (by decide) (by decide) (Nat.le_of_ble_eq_true rfl) rfl (fun v w' hp => ?_) (fun E w' hp => ?_)
  · obtain ⟨α', hE, hQ, eo, rfl⟩ := hp
    cases eo
    obtain ⟨hV2, hI2, e3, e4⟩ := hC α' hQ
    rw [show bt_ad α 5 0 = bt_ad α' 5 0 from ((hE.1 _ _ hV.v5).2).symm, show bt_ad α 6 0 = bt_ad α' 6 0 from ((hE.1 _ _ hV.J6.v6).2).symm, show bt_ad α 8 5 = bt_ad α' 8 5 from ((hE.1 _ _ hV.out.1).2).symm]
    refine bq_istore (i := 5) dL_law_706 (by decide) ?_
    refine bq_lvs (lv' := [(0, .ref (bp_sb G)), (1, .ref (bt_ad α' 5 0)), (2, .ref (bt_ad α' 6 0)), (3, .ref (bt_ad α' 8 5)), (4, .int (nI i)), (5, .int k)]) ⟨rfl, rfl, rfl, rfl, rfl, rfl, trivial⟩ ?_
    refine bq_aload_n (i := 2) dL_law_708 rfl ?_
    refine bq_aload_n (i := 0) dL_law_709 rfl ?_
    refine bq_iload (i := 4) dL_law_710 rfl ?_
    refine bq_iconst (v := (nI 1)) dL_law_712 (by decide) ?_
    refine bq_iadd dL_law_713 ?_
    rw [nI_add]
    refine bq_sld (j := i + 1) dL_law_714 rfl (by omega) hn ?_
    refine bt_callVr (c := 6) (i := 0) dL_law_715 rfl ml_L_121 (hJ α' hQ).v6 (by decide) (hB α' hQ) (by decide) (by decide) (Nat.le_of_ble_eq_true rfl) rfl ?_
    refine bq_istore (i := 6) dL_law_718 (by decide) ?_
    refine bq_lvs (lv' := [(0, .ref (bp_sb G)), (1, .ref (bt_ad α' 5 0)), (2, .ref (bt_ad α' 6 0)), (3, .ref (bt_ad α' 8 5)), (4, .int (nI i)), (5, .int k), (6, .int R.1)]) ⟨rfl, rfl, rfl, rfl, rfl, rfl, rfl, trivial⟩ ?_
    refine bq_aload_n (i := 2) dL_law_720 rfl ?_
    refine bt_callVr (c := 6) (i := 0) dL_law_721 rfl ml_L_91 (hJ α' hQ).v6 (by decide) (n_thrown (hJ α' hQ)) (by decide) (by decide) (Nat.le_of_ble_eq_true rfl) rfl ?_
    refine bq_iload (i := 5) dL_law_724 rfl ?_
    refine bq_icmp_eq (tgt := 731) dL_law_726 (by decide) (fun _ => ?_) (fun c => absurd e3 c)
    refine bq_iload (i := 5) dL_law_731 rfl ?_
    have fin : bq_W G mL_law 13 748 [(0, .ref (bp_sb G)), (1, .ref (bt_ad α' 5 0)), (2, .ref (bt_ad α' 6 0)), (3, .ref (bt_ad α' 8 5)), (4, .int (nI i)), (5, .int k), (6, .int R.1)] [] (bt α' R.2.1 R.2.2) Φ := by
      refine bq_goto (tgt := 1453) dL_law_748 (by decide) ?_
      refine bq_lvs (lv' := [(0, .ref (bp_sb G)), (1, .ref (bt_ad α' 5 0)), (2, .ref (bt_ad α' 6 0)), (3, .ref (bt_ad α' 8 5)), (4, .int (nI i))]) ⟨rfl, rfl, rfl, rfl, rfl, trivial⟩ ?_
      exact kk α' _ _ hV2 hI2 hE.2.2.2
    refine bq_if_ne (tgt := 748) dL_law_733 (by decide) (fun _ => fin) (fun c => ?_)
    refine bq_aload_n (i := 3) dL_law_736 rfl ?_
    refine bq_iconst (v := (nI 0)) dL_law_737 (by decide) ?_
    refine bt_lald1 (n := 5) (j := 0) (len := 1) dL_law_738 hV2.out rfl (by decide) (by decide) rfl ?_
    rw [e4 c]
    refine bq_iload (i := 6) dL_law_739 rfl ?_
    refine bq_i2l dL_law_741 ?_
    refine bq_lcmp dL_law_742 ?_
    refine bq_if_eq (tgt := 748) dL_law_743 (by decide) (fun _ => fin) (fun c => absurd (lg_cmp_self _) c)
  · obtain ⟨_, _, _, e, _⟩ := hp
    cases e
set_option maxRecDepth 100000 in
set_option maxHeartbeats 1000000 in
theorem l_9 (hL : i + 6 ≤ bp_sL G) (hn : bp_sL G < 2 ^ 31) (hV : z_V α σ) (h : v_Inv σ x) (hroom : bt_us α + 110 ≤ bp_max) (kk : ∀ α' σ' x', z_V α' σ' → v_Inv σ' x' → bt_us α' ≤ bt_us α + 110 → bq_W G mL_law 13 1453 [(0, .ref (bp_sb G)), (1, .ref (bt_ad α' 5 0)), (2, .ref (bt_ad α' 6 0)), (3, .ref (bt_ad α' 8 5)), (4, .int (nI i))] [] (bt α' σ' x') Φ) : bq_W G mL_law 13 751 [(0, .ref (bp_sb G)), (1, .ref (bt_ad α 5 0)), (2, .ref (bt_ad α 6 0)), (3, .ref (bt_ad α 8 5)), (4, .int (nI i))] [] (bt α σ x) Φ := by
  obtain ⟨Q, k, σ1, w, R, hA, hB, hC, hJ⟩ := y_remove (G := G) (p0 := bp_xs G (i + 1)) hV h hroom
  refine bq_aload_n (i := 1) dL_law_751 rfl ?_
  refine bq_aload_n (i := 0) dL_law_752 rfl ?_
  refine bq_iload (i := 4) dL_law_753 rfl ?_
  refine bq_iconst (v := (nI 1)) dL_law_755 (by decide) ?_
  refine bq_iadd dL_law_756 ?_
  rw [nI_add]
  refine bq_sld (j := i + 1) dL_law_757 rfl (by omega) hn ?_
  refine bq_aload_n (i := 3) dL_law_758 rfl ?_
  refine bq_callS dL_law_759 ml_L_122 hA (by decide) (by decide) (Nat.le_of_ble_eq_true rfl) rfl (fun v w' hp => ?_) (fun E w' hp => ?_)
  · obtain ⟨α', hE, hQ, eo, rfl⟩ := hp
    cases eo
    obtain ⟨hV2, hI2, e3, e4⟩ := hC α' hQ
    rw [show bt_ad α 5 0 = bt_ad α' 5 0 from ((hE.1 _ _ hV.v5).2).symm, show bt_ad α 6 0 = bt_ad α' 6 0 from ((hE.1 _ _ hV.J6.v6).2).symm, show bt_ad α 8 5 = bt_ad α' 8 5 from ((hE.1 _ _ hV.out.1).2).symm]
    refine bq_istore (i := 5) dL_law_762 (by decide) ?_
    refine bq_lvs (lv' := [(0, .ref (bp_sb G)), (1, .ref (bt_ad α' 5 0)), (2, .ref (bt_ad α' 6 0)), (3, .ref (bt_ad α' 8 5)), (4, .int (nI i)), (5, .int k)]) ⟨rfl, rfl, rfl, rfl, rfl, rfl, trivial⟩ ?_
    refine bq_aload_n (i := 2) dL_law_764 rfl ?_
    refine bq_aload_n (i := 0) dL_law_765 rfl ?_
    refine bq_iload (i := 4) dL_law_766 rfl ?_
    refine bq_iconst (v := (nI 1)) dL_law_768 (by decide) ?_
    refine bq_iadd dL_law_769 ?_
    rw [nI_add]
    refine bq_sld (j := i + 1) dL_law_770 rfl (by omega) hn ?_
    refine bt_callVr (c := 6) (i := 0) dL_law_771 rfl ml_L_124 (hJ α' hQ).v6 (by decide) (hB α' hQ) (by decide) (by decide) (Nat.le_of_ble_eq_true rfl) rfl ?_
    refine bq_istore (i := 6) dL_law_774 (by decide) ?_
    refine bq_lvs (lv' := [(0, .ref (bp_sb G)), (1, .ref (bt_ad α' 5 0)), (2, .ref (bt_ad α' 6 0)), (3, .ref (bt_ad α' 8 5)), (4, .int (nI i)), (5, .int k), (6, .int R.1)]) ⟨rfl, rfl, rfl, rfl, rfl, rfl, rfl, trivial⟩ ?_
    refine bq_aload_n (i := 2) dL_law_776 rfl ?_
    refine bt_callVr (c := 6) (i := 0) dL_law_777 rfl ml_L_91 (hJ α' hQ).v6 (by decide) (n_thrown (hJ α' hQ)) (by decide) (by decide) (Nat.le_of_ble_eq_true rfl) rfl ?_
    refine bq_iload (i := 5) dL_law_780 rfl ?_
    refine bq_icmp_eq (tgt := 787) dL_law_782 (by decide) (fun _ => ?_) (fun c => absurd e3 c)
    refine bq_iload (i := 5) dL_law_787 rfl ?_
    have fin : bq_W G mL_law 13 804 [(0, .ref (bp_sb G)), (1, .ref (bt_ad α' 5 0)), (2, .ref (bt_ad α' 6 0)), (3, .ref (bt_ad α' 8 5)), (4, .int (nI i)), (5, .int k), (6, .int R.1)] [] (bt α' R.2.1 R.2.2) Φ := by
      refine bq_goto (tgt := 1453) dL_law_804 (by decide) ?_
      refine bq_lvs (lv' := [(0, .ref (bp_sb G)), (1, .ref (bt_ad α' 5 0)), (2, .ref (bt_ad α' 6 0)), (3, .ref (bt_ad α' 8 5)), (4, .int (nI i))]) ⟨rfl, rfl, rfl, rfl, rfl, trivial⟩ ?_
      exact kk α' _ _ hV2 hI2 hE.2.2.2
    refine bq_if_ne (tgt := 804) dL_law_789 (by decide) (fun _ => fin) (fun c => ?_)
    refine bq_aload_n (i := 3) dL_law_792 rfl ?_
    refine bq_iconst (v := (nI 0)) dL_law_793 (by decide) ?_
    refine bt_lald1 (n := 5) (j := 0) (len := 1) dL_law_794 hV2.out rfl (by decide) (by decide) rfl ?_
    rw [e4 c]
    refine bq_iload (i := 6) dL_law_795 rfl ?_
    refine bq_i2l dL_law_797 ?_
    refine bq_lcmp dL_law_798 ?_
    refine bq_if_eq (tgt := 804) dL_law_799 (by decide) (fun _ => fin) (fun c => absurd (lg_cmp_self _) c)
  · obtain ⟨_, _, _, e, _⟩ := hp
    cases e
set_option maxRecDepth 100000 in
set_option maxHeartbeats 1000000 in
theorem l_10 (hL : i + 6 ≤ bp_sL G) (hn : bp_sL G < 2 ^ 31) (hV : z_V α σ) (h : v_Inv σ x) (hroom : bt_us α + 110 ≤ bp_max) (kk : ∀ α' σ' x', z_V α' σ' → v_Inv σ' x' → bt_us α' ≤ bt_us α + 110 → bq_W G mL_law 13 1453 [(0, .ref (bp_sb G)), (1, .ref (bt_ad α' 5 0)), (2, .ref (bt_ad α' 6 0)), (3, .ref (bt_ad α' 8 5)), (4, .int (nI i))] [] (bt α' σ' x') Φ) : bq_W G mL_law 13 807 [(0, .ref (bp_sb G)), (1, .ref (bt_ad α 5 0)), (2, .ref (bt_ad α 6 0)), (3, .ref (bt_ad α 8 5)), (4, .int (nI i))] [] (bt α σ x) Φ := by
  obtain ⟨Q, k, σ1, w, R, hA, hB, hC, hJ⟩ := y_swap (G := G) (p0 := bp_xs G (i + 1)) (p1 := bp_xs G (i + 2)) hV h hroom
  refine bq_aload_n (i := 1) dL_law_807 rfl ?_
  refine bq_aload_n (i := 0) dL_law_808 rfl ?_
  refine bq_iload (i := 4) dL_law_809 rfl ?_
  refine bq_iconst (v := (nI 1)) dL_law_811 (by decide) ?_
  refine bq_iadd dL_law_812 ?_
  rw [nI_add]
  refine bq_sld (j := i + 1) dL_law_813 rfl (by omega) hn ?_
  refine bq_aload_n (i := 0) dL_law_814 rfl ?_
  refine bq_iload (i := 4) dL_law_815 rfl ?_
  refine bq_iconst (v := (nI 2)) dL_law_817 (by decide) ?_
  refine bq_iadd dL_law_818 ?_
  rw [nI_add]
  refine bq_sld (j := i + 2) dL_law_819 rfl (by omega) hn ?_
  refine bq_aload_n (i := 3) dL_law_820 rfl ?_
  refine bq_callS dL_law_821 ml_L_125 hA (by decide) (by decide) (Nat.le_of_ble_eq_true rfl) rfl (fun v w' hp => ?_) (fun E w' hp => ?_)
  · obtain ⟨α', hE, hQ, eo, rfl⟩ := hp
    cases eo
    obtain ⟨hV2, hI2, e3, e4⟩ := hC α' hQ
    rw [show bt_ad α 5 0 = bt_ad α' 5 0 from ((hE.1 _ _ hV.v5).2).symm, show bt_ad α 6 0 = bt_ad α' 6 0 from ((hE.1 _ _ hV.J6.v6).2).symm, show bt_ad α 8 5 = bt_ad α' 8 5 from ((hE.1 _ _ hV.out.1).2).symm]
    refine bq_istore (i := 5) dL_law_824 (by decide) ?_
    refine bq_lvs (lv' := [(0, .ref (bp_sb G)), (1, .ref (bt_ad α' 5 0)), (2, .ref (bt_ad α' 6 0)), (3, .ref (bt_ad α' 8 5)), (4, .int (nI i)), (5, .int k)]) ⟨rfl, rfl, rfl, rfl, rfl, rfl, trivial⟩ ?_
    refine bq_aload_n (i := 2) dL_law_826 rfl ?_
    refine bq_aload_n (i := 0) dL_law_827 rfl ?_
    refine bq_iload (i := 4) dL_law_828 rfl ?_
    refine bq_iconst (v := (nI 1)) dL_law_830 (by decide) ?_
    refine bq_iadd dL_law_831 ?_
    rw [nI_add]
    refine bq_sld (j := i + 1) dL_law_832 rfl (by omega) hn ?_
    refine bq_aload_n (i := 0) dL_law_833 rfl ?_
    refine bq_iload (i := 4) dL_law_834 rfl ?_
    refine bq_iconst (v := (nI 2)) dL_law_836 (by decide) ?_
    refine bq_iadd dL_law_837 ?_
    rw [nI_add]
    refine bq_sld (j := i + 2) dL_law_838 rfl (by omega) hn ?_
    refine bt_callVr (c := 6) (i := 0) dL_law_839 rfl ml_L_127 (hJ α' hQ).v6 (by decide) (hB α' hQ) (by decide) (by decide) (Nat.le_of_ble_eq_true rfl) rfl ?_
    refine bq_istore (i := 6) dL_law_842 (by decide) ?_
    refine bq_lvs (lv' := [(0, .ref (bp_sb G)), (1, .ref (bt_ad α' 5 0)), (2, .ref (bt_ad α' 6 0)), (3, .ref (bt_ad α' 8 5)), (4, .int (nI i)), (5, .int k), (6, .int R.1)]) ⟨rfl, rfl, rfl, rfl, rfl, rfl, rfl, trivial⟩ ?_
    refine bq_aload_n (i := 2) dL_law_844 rfl ?_
    refine bt_callVr (c := 6) (i := 0) dL_law_845 rfl ml_L_91 (hJ α' hQ).v6 (by decide) (n_thrown (hJ α' hQ)) (by decide) (by decide) (Nat.le_of_ble_eq_true rfl) rfl ?_
    refine bq_iload (i := 5) dL_law_848 rfl ?_
    refine bq_icmp_eq (tgt := 855) dL_law_850 (by decide) (fun _ => ?_) (fun c => absurd e3 c)
    refine bq_iload (i := 5) dL_law_855 rfl ?_
    have fin : bq_W G mL_law 13 872 [(0, .ref (bp_sb G)), (1, .ref (bt_ad α' 5 0)), (2, .ref (bt_ad α' 6 0)), (3, .ref (bt_ad α' 8 5)), (4, .int (nI i)), (5, .int k), (6, .int R.1)] [] (bt α' R.2.1 R.2.2) Φ := by
      refine bq_goto (tgt := 1453) dL_law_872 (by decide) ?_
      refine bq_lvs (lv' := [(0, .ref (bp_sb G)), (1, .ref (bt_ad α' 5 0)), (2, .ref (bt_ad α' 6 0)), (3, .ref (bt_ad α' 8 5)), (4, .int (nI i))]) ⟨rfl, rfl, rfl, rfl, rfl, trivial⟩ ?_
      exact kk α' _ _ hV2 hI2 hE.2.2.2
    refine bq_if_ne (tgt := 872) dL_law_857 (by decide) (fun _ => fin) (fun c => ?_)
    refine bq_aload_n (i := 3) dL_law_860 rfl ?_
    refine bq_iconst (v := (nI 0)) dL_law_861 (by decide) ?_
    refine bt_lald1 (n := 5) (j := 0) (len := 1) dL_law_862 hV2.out rfl (by decide) (by decide) rfl ?_
    rw [e4 c]
    refine bq_iload (i := 6) dL_law_863 rfl ?_
    refine bq_i2l dL_law_865 ?_
    refine bq_lcmp dL_law_866 ?_
    refine bq_if_eq (tgt := 872) dL_law_867 (by decide) (fun _ => fin) (fun c => absurd (lg_cmp_self _) c)
  · obtain ⟨_, _, _, e, _⟩ := hp
    cases e
set_option maxRecDepth 100000 in
set_option maxHeartbeats 1000000 in
theorem l_11 (hL : i + 6 ≤ bp_sL G) (hn : bp_sL G < 2 ^ 31) (hV : z_V α σ) (h : v_Inv σ x) (hroom : bt_us α + 110 ≤ bp_max) (kk : ∀ α' σ' x', z_V α' σ' → v_Inv σ' x' → bt_us α' ≤ bt_us α + 110 → bq_W G mL_law 13 1453 [(0, .ref (bp_sb G)), (1, .ref (bt_ad α' 5 0)), (2, .ref (bt_ad α' 6 0)), (3, .ref (bt_ad α' 8 5)), (4, .int (nI i))] [] (bt α' σ' x') Φ) : bq_W G mL_law 13 875 [(0, .ref (bp_sb G)), (1, .ref (bt_ad α 5 0)), (2, .ref (bt_ad α 6 0)), (3, .ref (bt_ad α 8 5)), (4, .int (nI i))] [] (bt α σ x) Φ := by
  obtain ⟨Q, k, σ1, w, R, hA, hB, hC, hJ⟩ := y_placed (G := G) (p0 := bp_xs G (i + 1)) hV h hroom
  refine bq_aload_n (i := 1) dL_law_875 rfl ?_
  refine bq_aload_n (i := 0) dL_law_876 rfl ?_
  refine bq_iload (i := 4) dL_law_877 rfl ?_
  refine bq_iconst (v := (nI 1)) dL_law_879 (by decide) ?_
  refine bq_iadd dL_law_880 ?_
  rw [nI_add]
  refine bq_sld (j := i + 1) dL_law_881 rfl (by omega) hn ?_
  refine bq_aload_n (i := 3) dL_law_882 rfl ?_
  refine bq_callS dL_law_883 ml_L_128 hA (by decide) (by decide) (Nat.le_of_ble_eq_true rfl) rfl (fun v w' hp => ?_) (fun E w' hp => ?_)
  · obtain ⟨α', hE, hQ, eo, rfl⟩ := hp
    cases eo
    obtain ⟨hV2, hI2, e3, e4⟩ := hC α' hQ
    rw [show bt_ad α 5 0 = bt_ad α' 5 0 from ((hE.1 _ _ hV.v5).2).symm, show bt_ad α 6 0 = bt_ad α' 6 0 from ((hE.1 _ _ hV.J6.v6).2).symm, show bt_ad α 8 5 = bt_ad α' 8 5 from ((hE.1 _ _ hV.out.1).2).symm]
    refine bq_istore (i := 5) dL_law_886 (by decide) ?_
    refine bq_lvs (lv' := [(0, .ref (bp_sb G)), (1, .ref (bt_ad α' 5 0)), (2, .ref (bt_ad α' 6 0)), (3, .ref (bt_ad α' 8 5)), (4, .int (nI i)), (5, .int k)]) ⟨rfl, rfl, rfl, rfl, rfl, rfl, trivial⟩ ?_
    refine bq_aload_n (i := 2) dL_law_888 rfl ?_
    refine bq_aload_n (i := 0) dL_law_889 rfl ?_
    refine bq_iload (i := 4) dL_law_890 rfl ?_
    refine bq_iconst (v := (nI 1)) dL_law_892 (by decide) ?_
    refine bq_iadd dL_law_893 ?_
    rw [nI_add]
    refine bq_sld (j := i + 1) dL_law_894 rfl (by omega) hn ?_
    refine bt_callVr (c := 6) (i := 0) dL_law_895 rfl ml_L_130 (hJ α' hQ).v6 (by decide) (hB α' hQ) (by decide) (by decide) (Nat.le_of_ble_eq_true rfl) rfl ?_
    refine bq_istore (i := 6) dL_law_898 (by decide) ?_
    refine bq_lvs (lv' := [(0, .ref (bp_sb G)), (1, .ref (bt_ad α' 5 0)), (2, .ref (bt_ad α' 6 0)), (3, .ref (bt_ad α' 8 5)), (4, .int (nI i)), (5, .int k), (6, .int R.1)]) ⟨rfl, rfl, rfl, rfl, rfl, rfl, rfl, trivial⟩ ?_
    refine bq_aload_n (i := 2) dL_law_900 rfl ?_
    refine bt_callVr (c := 6) (i := 0) dL_law_901 rfl ml_L_91 (hJ α' hQ).v6 (by decide) (n_thrown (hJ α' hQ)) (by decide) (by decide) (Nat.le_of_ble_eq_true rfl) rfl ?_
    refine bq_iload (i := 5) dL_law_904 rfl ?_
    refine bq_icmp_eq (tgt := 911) dL_law_906 (by decide) (fun _ => ?_) (fun c => absurd e3 c)
    refine bq_iload (i := 5) dL_law_911 rfl ?_
    have fin : bq_W G mL_law 13 928 [(0, .ref (bp_sb G)), (1, .ref (bt_ad α' 5 0)), (2, .ref (bt_ad α' 6 0)), (3, .ref (bt_ad α' 8 5)), (4, .int (nI i)), (5, .int k), (6, .int R.1)] [] (bt α' R.2.1 R.2.2) Φ := by
      refine bq_goto (tgt := 1453) dL_law_928 (by decide) ?_
      refine bq_lvs (lv' := [(0, .ref (bp_sb G)), (1, .ref (bt_ad α' 5 0)), (2, .ref (bt_ad α' 6 0)), (3, .ref (bt_ad α' 8 5)), (4, .int (nI i))]) ⟨rfl, rfl, rfl, rfl, rfl, trivial⟩ ?_
      exact kk α' _ _ hV2 hI2 hE.2.2.2
    refine bq_if_ne (tgt := 928) dL_law_913 (by decide) (fun _ => fin) (fun c => ?_)
    refine bq_aload_n (i := 3) dL_law_916 rfl ?_
    refine bq_iconst (v := (nI 0)) dL_law_917 (by decide) ?_
    refine bt_lald1 (n := 5) (j := 0) (len := 1) dL_law_918 hV2.out rfl (by decide) (by decide) rfl ?_
    rw [e4 c]
    refine bq_iload (i := 6) dL_law_919 rfl ?_
    refine bq_i2l dL_law_921 ?_
    refine bq_lcmp dL_law_922 ?_
    refine bq_if_eq (tgt := 928) dL_law_923 (by decide) (fun _ => fin) (fun c => absurd (lg_cmp_self _) c)
  · obtain ⟨_, _, _, e, _⟩ := hp
    cases e
set_option maxRecDepth 100000 in
set_option maxHeartbeats 1000000 in
theorem l_12 (hL : i + 6 ≤ bp_sL G) (hn : bp_sL G < 2 ^ 31) (hV : z_V α σ) (h : v_Inv σ x) (hroom : bt_us α + 110 ≤ bp_max) (kk : ∀ α' σ' x', z_V α' σ' → v_Inv σ' x' → bt_us α' ≤ bt_us α + 110 → bq_W G mL_law 13 1453 [(0, .ref (bp_sb G)), (1, .ref (bt_ad α' 5 0)), (2, .ref (bt_ad α' 6 0)), (3, .ref (bt_ad α' 8 5)), (4, .int (nI i))] [] (bt α' σ' x') Φ) : bq_W G mL_law 13 931 [(0, .ref (bp_sb G)), (1, .ref (bt_ad α 5 0)), (2, .ref (bt_ad α 6 0)), (3, .ref (bt_ad α 8 5)), (4, .int (nI i))] [] (bt α σ x) Φ := by
  obtain ⟨Q, k, σ1, w, R, hA, hB, hC, hJ⟩ := y_placedAt (G := G) (p0 := bp_xs G (i + 1)) (p1 := bp_xs G (i + 2)) hV h hroom
  refine bq_aload_n (i := 1) dL_law_931 rfl ?_
  refine bq_aload_n (i := 0) dL_law_932 rfl ?_
  refine bq_iload (i := 4) dL_law_933 rfl ?_
  refine bq_iconst (v := (nI 1)) dL_law_935 (by decide) ?_
  refine bq_iadd dL_law_936 ?_
  rw [nI_add]
  refine bq_sld (j := i + 1) dL_law_937 rfl (by omega) hn ?_
  refine bq_aload_n (i := 0) dL_law_938 rfl ?_
  refine bq_iload (i := 4) dL_law_939 rfl ?_
  refine bq_iconst (v := (nI 2)) dL_law_941 (by decide) ?_
  refine bq_iadd dL_law_942 ?_
  rw [nI_add]
  refine bq_sld (j := i + 2) dL_law_943 rfl (by omega) hn ?_
  refine bq_aload_n (i := 3) dL_law_944 rfl ?_
  refine bq_callS dL_law_945 ml_L_131 hA (by decide) (by decide) (Nat.le_of_ble_eq_true rfl) rfl (fun v w' hp => ?_) (fun E w' hp => ?_)
  · obtain ⟨α', hE, hQ, eo, rfl⟩ := hp
    cases eo
    obtain ⟨hV2, hI2, e3, e4⟩ := hC α' hQ
    rw [show bt_ad α 5 0 = bt_ad α' 5 0 from ((hE.1 _ _ hV.v5).2).symm, show bt_ad α 6 0 = bt_ad α' 6 0 from ((hE.1 _ _ hV.J6.v6).2).symm, show bt_ad α 8 5 = bt_ad α' 8 5 from ((hE.1 _ _ hV.out.1).2).symm]
    refine bq_istore (i := 5) dL_law_948 (by decide) ?_
    refine bq_lvs (lv' := [(0, .ref (bp_sb G)), (1, .ref (bt_ad α' 5 0)), (2, .ref (bt_ad α' 6 0)), (3, .ref (bt_ad α' 8 5)), (4, .int (nI i)), (5, .int k)]) ⟨rfl, rfl, rfl, rfl, rfl, rfl, trivial⟩ ?_
    refine bq_aload_n (i := 2) dL_law_950 rfl ?_
    refine bq_aload_n (i := 0) dL_law_951 rfl ?_
    refine bq_iload (i := 4) dL_law_952 rfl ?_
    refine bq_iconst (v := (nI 1)) dL_law_954 (by decide) ?_
    refine bq_iadd dL_law_955 ?_
    rw [nI_add]
    refine bq_sld (j := i + 1) dL_law_956 rfl (by omega) hn ?_
    refine bq_aload_n (i := 0) dL_law_957 rfl ?_
    refine bq_iload (i := 4) dL_law_958 rfl ?_
    refine bq_iconst (v := (nI 2)) dL_law_960 (by decide) ?_
    refine bq_iadd dL_law_961 ?_
    rw [nI_add]
    refine bq_sld (j := i + 2) dL_law_962 rfl (by omega) hn ?_
    refine bt_callVr (c := 6) (i := 0) dL_law_963 rfl ml_L_133 (hJ α' hQ).v6 (by decide) (hB α' hQ) (by decide) (by decide) (Nat.le_of_ble_eq_true rfl) rfl ?_
    refine bq_istore (i := 6) dL_law_966 (by decide) ?_
    refine bq_lvs (lv' := [(0, .ref (bp_sb G)), (1, .ref (bt_ad α' 5 0)), (2, .ref (bt_ad α' 6 0)), (3, .ref (bt_ad α' 8 5)), (4, .int (nI i)), (5, .int k), (6, .int R.1)]) ⟨rfl, rfl, rfl, rfl, rfl, rfl, rfl, trivial⟩ ?_
    refine bq_aload_n (i := 2) dL_law_968 rfl ?_
    refine bt_callVr (c := 6) (i := 0) dL_law_969 rfl ml_L_91 (hJ α' hQ).v6 (by decide) (n_thrown (hJ α' hQ)) (by decide) (by decide) (Nat.le_of_ble_eq_true rfl) rfl ?_
    refine bq_iload (i := 5) dL_law_972 rfl ?_
    refine bq_icmp_eq (tgt := 979) dL_law_974 (by decide) (fun _ => ?_) (fun c => absurd e3 c)
    refine bq_iload (i := 5) dL_law_979 rfl ?_
    have fin : bq_W G mL_law 13 996 [(0, .ref (bp_sb G)), (1, .ref (bt_ad α' 5 0)), (2, .ref (bt_ad α' 6 0)), (3, .ref (bt_ad α' 8 5)), (4, .int (nI i)), (5, .int k), (6, .int R.1)] [] (bt α' R.2.1 R.2.2) Φ := by
      refine bq_goto (tgt := 1453) dL_law_996 (by decide) ?_
      refine bq_lvs (lv' := [(0, .ref (bp_sb G)), (1, .ref (bt_ad α' 5 0)), (2, .ref (bt_ad α' 6 0)), (3, .ref (bt_ad α' 8 5)), (4, .int (nI i))]) ⟨rfl, rfl, rfl, rfl, rfl, trivial⟩ ?_
      exact kk α' _ _ hV2 hI2 hE.2.2.2
    refine bq_if_ne (tgt := 996) dL_law_981 (by decide) (fun _ => fin) (fun c => ?_)
    refine bq_aload_n (i := 3) dL_law_984 rfl ?_
    refine bq_iconst (v := (nI 0)) dL_law_985 (by decide) ?_
    refine bt_lald1 (n := 5) (j := 0) (len := 1) dL_law_986 hV2.out rfl (by decide) (by decide) rfl ?_
    rw [e4 c]
    refine bq_iload (i := 6) dL_law_987 rfl ?_
    refine bq_i2l dL_law_989 ?_
    refine bq_lcmp dL_law_990 ?_
    refine bq_if_eq (tgt := 996) dL_law_991 (by decide) (fun _ => fin) (fun c => absurd (lg_cmp_self _) c)
  · obtain ⟨_, _, _, e, _⟩ := hp
    cases e
set_option maxRecDepth 100000 in
set_option maxHeartbeats 1000000 in
theorem l_13 (hL : i + 6 ≤ bp_sL G) (hn : bp_sL G < 2 ^ 31) (hV : z_V α σ) (h : v_Inv σ x) (hroom : bt_us α + 110 ≤ bp_max) (kk : ∀ α' σ' x', z_V α' σ' → v_Inv σ' x' → bt_us α' ≤ bt_us α + 110 → bq_W G mL_law 13 1453 [(0, .ref (bp_sb G)), (1, .ref (bt_ad α' 5 0)), (2, .ref (bt_ad α' 6 0)), (3, .ref (bt_ad α' 8 5)), (4, .int (nI i))] [] (bt α' σ' x') Φ) : bq_W G mL_law 13 999 [(0, .ref (bp_sb G)), (1, .ref (bt_ad α 5 0)), (2, .ref (bt_ad α 6 0)), (3, .ref (bt_ad α 8 5)), (4, .int (nI i))] [] (bt α σ x) Φ := by
  obtain ⟨Q, k, σ1, w, R, hA, hB, hC, hJ⟩ := y_startOf (G := G) (p0 := bp_xs G (i + 1)) (p1 := bp_xs G (i + 2)) hV h hroom
  refine bq_aload_n (i := 1) dL_law_999 rfl ?_
  refine bq_aload_n (i := 0) dL_law_1000 rfl ?_
  refine bq_iload (i := 4) dL_law_1001 rfl ?_
  refine bq_iconst (v := (nI 1)) dL_law_1003 (by decide) ?_
  refine bq_iadd dL_law_1004 ?_
  rw [nI_add]
  refine bq_sld (j := i + 1) dL_law_1005 rfl (by omega) hn ?_
  refine bq_aload_n (i := 0) dL_law_1006 rfl ?_
  refine bq_iload (i := 4) dL_law_1007 rfl ?_
  refine bq_iconst (v := (nI 2)) dL_law_1009 (by decide) ?_
  refine bq_iadd dL_law_1010 ?_
  rw [nI_add]
  refine bq_sld (j := i + 2) dL_law_1011 rfl (by omega) hn ?_
  refine bq_aload_n (i := 3) dL_law_1012 rfl ?_
  refine bq_callS dL_law_1013 ml_L_134 hA (by decide) (by decide) (Nat.le_of_ble_eq_true rfl) rfl (fun v w' hp => ?_) (fun E w' hp => ?_)
  · obtain ⟨α', hE, hQ, eo, rfl⟩ := hp
    cases eo
    obtain ⟨hV2, hI2, e3, e4⟩ := hC α' hQ
    rw [show bt_ad α 5 0 = bt_ad α' 5 0 from ((hE.1 _ _ hV.v5).2).symm, show bt_ad α 6 0 = bt_ad α' 6 0 from ((hE.1 _ _ hV.J6.v6).2).symm, show bt_ad α 8 5 = bt_ad α' 8 5 from ((hE.1 _ _ hV.out.1).2).symm]
    refine bq_istore (i := 5) dL_law_1016 (by decide) ?_
    refine bq_lvs (lv' := [(0, .ref (bp_sb G)), (1, .ref (bt_ad α' 5 0)), (2, .ref (bt_ad α' 6 0)), (3, .ref (bt_ad α' 8 5)), (4, .int (nI i)), (5, .int k)]) ⟨rfl, rfl, rfl, rfl, rfl, rfl, trivial⟩ ?_
    refine bq_aload_n (i := 2) dL_law_1018 rfl ?_
    refine bq_aload_n (i := 0) dL_law_1019 rfl ?_
    refine bq_iload (i := 4) dL_law_1020 rfl ?_
    refine bq_iconst (v := (nI 1)) dL_law_1022 (by decide) ?_
    refine bq_iadd dL_law_1023 ?_
    rw [nI_add]
    refine bq_sld (j := i + 1) dL_law_1024 rfl (by omega) hn ?_
    refine bq_aload_n (i := 0) dL_law_1025 rfl ?_
    refine bq_iload (i := 4) dL_law_1026 rfl ?_
    refine bq_iconst (v := (nI 2)) dL_law_1028 (by decide) ?_
    refine bq_iadd dL_law_1029 ?_
    rw [nI_add]
    refine bq_sld (j := i + 2) dL_law_1030 rfl (by omega) hn ?_
    refine bt_callVr (c := 6) (i := 0) dL_law_1031 rfl ml_L_136 (hJ α' hQ).v6 (by decide) (hB α' hQ) (by decide) (by decide) (Nat.le_of_ble_eq_true rfl) rfl ?_
    refine bq_istore (i := 6) dL_law_1034 (by decide) ?_
    refine bq_lvs (lv' := [(0, .ref (bp_sb G)), (1, .ref (bt_ad α' 5 0)), (2, .ref (bt_ad α' 6 0)), (3, .ref (bt_ad α' 8 5)), (4, .int (nI i)), (5, .int k), (6, .int R.1)]) ⟨rfl, rfl, rfl, rfl, rfl, rfl, rfl, trivial⟩ ?_
    refine bq_aload_n (i := 2) dL_law_1036 rfl ?_
    refine bt_callVr (c := 6) (i := 0) dL_law_1037 rfl ml_L_91 (hJ α' hQ).v6 (by decide) (n_thrown (hJ α' hQ)) (by decide) (by decide) (Nat.le_of_ble_eq_true rfl) rfl ?_
    refine bq_iload (i := 5) dL_law_1040 rfl ?_
    refine bq_icmp_eq (tgt := 1047) dL_law_1042 (by decide) (fun _ => ?_) (fun c => absurd e3 c)
    refine bq_iload (i := 5) dL_law_1047 rfl ?_
    have fin : bq_W G mL_law 13 1064 [(0, .ref (bp_sb G)), (1, .ref (bt_ad α' 5 0)), (2, .ref (bt_ad α' 6 0)), (3, .ref (bt_ad α' 8 5)), (4, .int (nI i)), (5, .int k), (6, .int R.1)] [] (bt α' R.2.1 R.2.2) Φ := by
      refine bq_goto (tgt := 1453) dL_law_1064 (by decide) ?_
      refine bq_lvs (lv' := [(0, .ref (bp_sb G)), (1, .ref (bt_ad α' 5 0)), (2, .ref (bt_ad α' 6 0)), (3, .ref (bt_ad α' 8 5)), (4, .int (nI i))]) ⟨rfl, rfl, rfl, rfl, rfl, trivial⟩ ?_
      exact kk α' _ _ hV2 hI2 hE.2.2.2
    refine bq_if_ne (tgt := 1064) dL_law_1049 (by decide) (fun _ => fin) (fun c => ?_)
    refine bq_aload_n (i := 3) dL_law_1052 rfl ?_
    refine bq_iconst (v := (nI 0)) dL_law_1053 (by decide) ?_
    refine bt_lald1 (n := 5) (j := 0) (len := 1) dL_law_1054 hV2.out rfl (by decide) (by decide) rfl ?_
    rw [e4 c]
    refine bq_iload (i := 6) dL_law_1055 rfl ?_
    refine bq_i2l dL_law_1057 ?_
    refine bq_lcmp dL_law_1058 ?_
    refine bq_if_eq (tgt := 1064) dL_law_1059 (by decide) (fun _ => fin) (fun c => absurd (lg_cmp_self _) c)
  · obtain ⟨_, _, _, e, _⟩ := hp
    cases e
set_option maxRecDepth 100000 in
set_option maxHeartbeats 1000000 in
theorem l_14 (hL : i + 6 ≤ bp_sL G) (hn : bp_sL G < 2 ^ 31) (hV : z_V α σ) (h : v_Inv σ x) (hroom : bt_us α + 110 ≤ bp_max) (kk : ∀ α' σ' x', z_V α' σ' → v_Inv σ' x' → bt_us α' ≤ bt_us α + 110 → bq_W G mL_law 13 1453 [(0, .ref (bp_sb G)), (1, .ref (bt_ad α' 5 0)), (2, .ref (bt_ad α' 6 0)), (3, .ref (bt_ad α' 8 5)), (4, .int (nI i))] [] (bt α' σ' x') Φ) : bq_W G mL_law 13 1067 [(0, .ref (bp_sb G)), (1, .ref (bt_ad α 5 0)), (2, .ref (bt_ad α 6 0)), (3, .ref (bt_ad α 8 5)), (4, .int (nI i))] [] (bt α σ x) Φ := by
  obtain ⟨Q, k, σ1, w, R, hA, hB, hC, hJ⟩ := y_startByRounds (G := G) (p0 := bp_xs G (i + 1)) (p1 := bp_xs G (i + 2)) hV h hroom
  refine bq_aload_n (i := 1) dL_law_1067 rfl ?_
  refine bq_aload_n (i := 0) dL_law_1068 rfl ?_
  refine bq_iload (i := 4) dL_law_1069 rfl ?_
  refine bq_iconst (v := (nI 1)) dL_law_1071 (by decide) ?_
  refine bq_iadd dL_law_1072 ?_
  rw [nI_add]
  refine bq_sld (j := i + 1) dL_law_1073 rfl (by omega) hn ?_
  refine bq_aload_n (i := 0) dL_law_1074 rfl ?_
  refine bq_iload (i := 4) dL_law_1075 rfl ?_
  refine bq_iconst (v := (nI 2)) dL_law_1077 (by decide) ?_
  refine bq_iadd dL_law_1078 ?_
  rw [nI_add]
  refine bq_sld (j := i + 2) dL_law_1079 rfl (by omega) hn ?_
  refine bq_aload_n (i := 3) dL_law_1080 rfl ?_
  refine bq_callS dL_law_1081 ml_L_137 hA (by decide) (by decide) (Nat.le_of_ble_eq_true rfl) rfl (fun v w' hp => ?_) (fun E w' hp => ?_)
  · obtain ⟨α', hE, hQ, eo, rfl⟩ := hp
    cases eo
    obtain ⟨hV2, hI2, e3, e4⟩ := hC α' hQ
    rw [show bt_ad α 5 0 = bt_ad α' 5 0 from ((hE.1 _ _ hV.v5).2).symm, show bt_ad α 6 0 = bt_ad α' 6 0 from ((hE.1 _ _ hV.J6.v6).2).symm, show bt_ad α 8 5 = bt_ad α' 8 5 from ((hE.1 _ _ hV.out.1).2).symm]
    refine bq_istore (i := 5) dL_law_1084 (by decide) ?_
    refine bq_lvs (lv' := [(0, .ref (bp_sb G)), (1, .ref (bt_ad α' 5 0)), (2, .ref (bt_ad α' 6 0)), (3, .ref (bt_ad α' 8 5)), (4, .int (nI i)), (5, .int k)]) ⟨rfl, rfl, rfl, rfl, rfl, rfl, trivial⟩ ?_
    refine bq_aload_n (i := 2) dL_law_1086 rfl ?_
    refine bq_aload_n (i := 0) dL_law_1087 rfl ?_
    refine bq_iload (i := 4) dL_law_1088 rfl ?_
    refine bq_iconst (v := (nI 1)) dL_law_1090 (by decide) ?_
    refine bq_iadd dL_law_1091 ?_
    rw [nI_add]
    refine bq_sld (j := i + 1) dL_law_1092 rfl (by omega) hn ?_
    refine bq_aload_n (i := 0) dL_law_1093 rfl ?_
    refine bq_iload (i := 4) dL_law_1094 rfl ?_
    refine bq_iconst (v := (nI 2)) dL_law_1096 (by decide) ?_
    refine bq_iadd dL_law_1097 ?_
    rw [nI_add]
    refine bq_sld (j := i + 2) dL_law_1098 rfl (by omega) hn ?_
    refine bt_callVr (c := 6) (i := 0) dL_law_1099 rfl ml_L_139 (hJ α' hQ).v6 (by decide) (hB α' hQ) (by decide) (by decide) (Nat.le_of_ble_eq_true rfl) rfl ?_
    refine bq_istore (i := 6) dL_law_1102 (by decide) ?_
    refine bq_lvs (lv' := [(0, .ref (bp_sb G)), (1, .ref (bt_ad α' 5 0)), (2, .ref (bt_ad α' 6 0)), (3, .ref (bt_ad α' 8 5)), (4, .int (nI i)), (5, .int k), (6, .int R.1)]) ⟨rfl, rfl, rfl, rfl, rfl, rfl, rfl, trivial⟩ ?_
    refine bq_aload_n (i := 2) dL_law_1104 rfl ?_
    refine bt_callVr (c := 6) (i := 0) dL_law_1105 rfl ml_L_91 (hJ α' hQ).v6 (by decide) (n_thrown (hJ α' hQ)) (by decide) (by decide) (Nat.le_of_ble_eq_true rfl) rfl ?_
    refine bq_iload (i := 5) dL_law_1108 rfl ?_
    refine bq_icmp_eq (tgt := 1115) dL_law_1110 (by decide) (fun _ => ?_) (fun c => absurd e3 c)
    refine bq_iload (i := 5) dL_law_1115 rfl ?_
    have fin : bq_W G mL_law 13 1132 [(0, .ref (bp_sb G)), (1, .ref (bt_ad α' 5 0)), (2, .ref (bt_ad α' 6 0)), (3, .ref (bt_ad α' 8 5)), (4, .int (nI i)), (5, .int k), (6, .int R.1)] [] (bt α' R.2.1 R.2.2) Φ := by
      refine bq_goto (tgt := 1453) dL_law_1132 (by decide) ?_
      refine bq_lvs (lv' := [(0, .ref (bp_sb G)), (1, .ref (bt_ad α' 5 0)), (2, .ref (bt_ad α' 6 0)), (3, .ref (bt_ad α' 8 5)), (4, .int (nI i))]) ⟨rfl, rfl, rfl, rfl, rfl, trivial⟩ ?_
      exact kk α' _ _ hV2 hI2 hE.2.2.2
    refine bq_if_ne (tgt := 1132) dL_law_1117 (by decide) (fun _ => fin) (fun c => ?_)
    refine bq_aload_n (i := 3) dL_law_1120 rfl ?_
    refine bq_iconst (v := (nI 0)) dL_law_1121 (by decide) ?_
    refine bt_lald1 (n := 5) (j := 0) (len := 1) dL_law_1122 hV2.out rfl (by decide) (by decide) rfl ?_
    rw [e4 c]
    refine bq_iload (i := 6) dL_law_1123 rfl ?_
    refine bq_i2l dL_law_1125 ?_
    refine bq_lcmp dL_law_1126 ?_
    refine bq_if_eq (tgt := 1132) dL_law_1127 (by decide) (fun _ => fin) (fun c => absurd (lg_cmp_self _) c)
  · obtain ⟨_, _, _, e, _⟩ := hp
    cases e
set_option maxRecDepth 100000 in
set_option maxHeartbeats 1000000 in
theorem l_15 (hL : i + 6 ≤ bp_sL G) (hn : bp_sL G < 2 ^ 31) (hV : z_V α σ) (h : v_Inv σ x) (hroom : bt_us α + 110 ≤ bp_max) (kk : ∀ α' σ' x', z_V α' σ' → v_Inv σ' x' → bt_us α' ≤ bt_us α + 110 → bq_W G mL_law 13 1453 [(0, .ref (bp_sb G)), (1, .ref (bt_ad α' 5 0)), (2, .ref (bt_ad α' 6 0)), (3, .ref (bt_ad α' 8 5)), (4, .int (nI i))] [] (bt α' σ' x') Φ) : bq_W G mL_law 13 1135 [(0, .ref (bp_sb G)), (1, .ref (bt_ad α 5 0)), (2, .ref (bt_ad α 6 0)), (3, .ref (bt_ad α 8 5)), (4, .int (nI i))] [] (bt α σ x) Φ := by
  obtain ⟨Q, k, σ1, w, R, hA, hB, hC, hJ⟩ := y_lateness (G := G) (p0 := bp_xs G (i + 1)) hV h hroom
  refine bq_aload_n (i := 1) dL_law_1135 rfl ?_
  refine bq_aload_n (i := 0) dL_law_1136 rfl ?_
  refine bq_iload (i := 4) dL_law_1137 rfl ?_
  refine bq_iconst (v := (nI 1)) dL_law_1139 (by decide) ?_
  refine bq_iadd dL_law_1140 ?_
  rw [nI_add]
  refine bq_sld (j := i + 1) dL_law_1141 rfl (by omega) hn ?_
  refine bq_aload_n (i := 3) dL_law_1142 rfl ?_
  refine bq_callS dL_law_1143 ml_L_140 hA (by decide) (by decide) (Nat.le_of_ble_eq_true rfl) rfl (fun v w' hp => ?_) (fun E w' hp => ?_)
  · obtain ⟨α', hE, hQ, eo, rfl⟩ := hp
    cases eo
    obtain ⟨hV2, hI2, e3, e4⟩ := hC α' hQ
    rw [show bt_ad α 5 0 = bt_ad α' 5 0 from ((hE.1 _ _ hV.v5).2).symm, show bt_ad α 6 0 = bt_ad α' 6 0 from ((hE.1 _ _ hV.J6.v6).2).symm, show bt_ad α 8 5 = bt_ad α' 8 5 from ((hE.1 _ _ hV.out.1).2).symm]
    refine bq_istore (i := 5) dL_law_1146 (by decide) ?_
    refine bq_lvs (lv' := [(0, .ref (bp_sb G)), (1, .ref (bt_ad α' 5 0)), (2, .ref (bt_ad α' 6 0)), (3, .ref (bt_ad α' 8 5)), (4, .int (nI i)), (5, .int k)]) ⟨rfl, rfl, rfl, rfl, rfl, rfl, trivial⟩ ?_
    refine bq_aload_n (i := 2) dL_law_1148 rfl ?_
    refine bq_aload_n (i := 0) dL_law_1149 rfl ?_
    refine bq_iload (i := 4) dL_law_1150 rfl ?_
    refine bq_iconst (v := (nI 1)) dL_law_1152 (by decide) ?_
    refine bq_iadd dL_law_1153 ?_
    rw [nI_add]
    refine bq_sld (j := i + 1) dL_law_1154 rfl (by omega) hn ?_
    refine bt_callVr (c := 6) (i := 0) dL_law_1155 rfl ml_L_142 (hJ α' hQ).v6 (by decide) (hB α' hQ) (by decide) (by decide) (Nat.le_of_ble_eq_true rfl) rfl ?_
    refine bq_istore (i := 6) dL_law_1158 (by decide) ?_
    refine bq_lvs (lv' := [(0, .ref (bp_sb G)), (1, .ref (bt_ad α' 5 0)), (2, .ref (bt_ad α' 6 0)), (3, .ref (bt_ad α' 8 5)), (4, .int (nI i)), (5, .int k), (6, .int R.1)]) ⟨rfl, rfl, rfl, rfl, rfl, rfl, rfl, trivial⟩ ?_
    refine bq_aload_n (i := 2) dL_law_1160 rfl ?_
    refine bt_callVr (c := 6) (i := 0) dL_law_1161 rfl ml_L_91 (hJ α' hQ).v6 (by decide) (n_thrown (hJ α' hQ)) (by decide) (by decide) (Nat.le_of_ble_eq_true rfl) rfl ?_
    refine bq_iload (i := 5) dL_law_1164 rfl ?_
    refine bq_icmp_eq (tgt := 1171) dL_law_1166 (by decide) (fun _ => ?_) (fun c => absurd e3 c)
    refine bq_iload (i := 5) dL_law_1171 rfl ?_
    have fin : bq_W G mL_law 13 1188 [(0, .ref (bp_sb G)), (1, .ref (bt_ad α' 5 0)), (2, .ref (bt_ad α' 6 0)), (3, .ref (bt_ad α' 8 5)), (4, .int (nI i)), (5, .int k), (6, .int R.1)] [] (bt α' R.2.1 R.2.2) Φ := by
      refine bq_goto (tgt := 1453) dL_law_1188 (by decide) ?_
      refine bq_lvs (lv' := [(0, .ref (bp_sb G)), (1, .ref (bt_ad α' 5 0)), (2, .ref (bt_ad α' 6 0)), (3, .ref (bt_ad α' 8 5)), (4, .int (nI i))]) ⟨rfl, rfl, rfl, rfl, rfl, trivial⟩ ?_
      exact kk α' _ _ hV2 hI2 hE.2.2.2
    refine bq_if_ne (tgt := 1188) dL_law_1173 (by decide) (fun _ => fin) (fun c => ?_)
    refine bq_aload_n (i := 3) dL_law_1176 rfl ?_
    refine bq_iconst (v := (nI 0)) dL_law_1177 (by decide) ?_
    refine bt_lald1 (n := 5) (j := 0) (len := 1) dL_law_1178 hV2.out rfl (by decide) (by decide) rfl ?_
    rw [e4 c]
    refine bq_iload (i := 6) dL_law_1179 rfl ?_
    refine bq_i2l dL_law_1181 ?_
    refine bq_lcmp dL_law_1182 ?_
    refine bq_if_eq (tgt := 1188) dL_law_1183 (by decide) (fun _ => fin) (fun c => absurd (lg_cmp_self _) c)
  · obtain ⟨_, _, _, e, _⟩ := hp
    cases e
set_option maxRecDepth 100000 in
set_option maxHeartbeats 1000000 in
theorem l_16 (hL : i + 6 ≤ bp_sL G) (hn : bp_sL G < 2 ^ 31) (hV : z_V α σ) (h : v_Inv σ x) (hroom : bt_us α + 110 ≤ bp_max) (kk : ∀ α' σ' x', z_V α' σ' → v_Inv σ' x' → bt_us α' ≤ bt_us α + 110 → bq_W G mL_law 13 1453 [(0, .ref (bp_sb G)), (1, .ref (bt_ad α' 5 0)), (2, .ref (bt_ad α' 6 0)), (3, .ref (bt_ad α' 8 5)), (4, .int (nI i))] [] (bt α' σ' x') Φ) : bq_W G mL_law 13 1191 [(0, .ref (bp_sb G)), (1, .ref (bt_ad α 5 0)), (2, .ref (bt_ad α 6 0)), (3, .ref (bt_ad α 8 5)), (4, .int (nI i))] [] (bt α σ x) Φ := by
  obtain ⟨u, hA, hB, hV2, hI2⟩ := y_span (G := G) hV h hroom
  refine bq_aload_n (i := 1) dL_law_1191 rfl ?_
  refine bt_callVr (c := 5) (i := 0) dL_law_1192 rfl ml_L_143 hV.v5 (by decide) hA (by decide) (by decide) (Nat.le_of_ble_eq_true rfl) rfl ?_
  refine bq_aload_n (i := 2) dL_law_1195 rfl ?_
  refine bt_callVr (c := 6) (i := 0) dL_law_1196 rfl ml_L_146 hV.J6.v6 (by decide) hB (by decide) (by decide) (Nat.le_of_ble_eq_true rfl) rfl ?_
  refine bq_icmp_eq (tgt := 1453) dL_law_1199 (by decide) (fun _ => ?_) (fun c => absurd rfl c)
  exact kk α _ _ hV2 hI2 (Nat.le_add_right _ _)
set_option maxRecDepth 100000 in
set_option maxHeartbeats 1000000 in
theorem l_17 (hL : i + 6 ≤ bp_sL G) (hn : bp_sL G < 2 ^ 31) (hV : z_V α σ) (h : v_Inv σ x) (hroom : bt_us α + 110 ≤ bp_max) (kk : ∀ α' σ' x', z_V α' σ' → v_Inv σ' x' → bt_us α' ≤ bt_us α + 110 → bq_W G mL_law 13 1453 [(0, .ref (bp_sb G)), (1, .ref (bt_ad α' 5 0)), (2, .ref (bt_ad α' 6 0)), (3, .ref (bt_ad α' 8 5)), (4, .int (nI i))] [] (bt α' σ' x') Φ) : bq_W G mL_law 13 1204 [(0, .ref (bp_sb G)), (1, .ref (bt_ad α 5 0)), (2, .ref (bt_ad α 6 0)), (3, .ref (bt_ad α 8 5)), (4, .int (nI i))] [] (bt α σ x) Φ := by
  obtain ⟨Q, k, σ1, w, R, hA, hB, hC, hJ⟩ := y_slack (G := G) (p0 := bp_xs G (i + 1)) (p1 := bp_xs G (i + 2)) hV h hroom
  refine bq_aload_n (i := 1) dL_law_1204 rfl ?_
  refine bq_aload_n (i := 0) dL_law_1205 rfl ?_
  refine bq_iload (i := 4) dL_law_1206 rfl ?_
  refine bq_iconst (v := (nI 1)) dL_law_1208 (by decide) ?_
  refine bq_iadd dL_law_1209 ?_
  rw [nI_add]
  refine bq_sld (j := i + 1) dL_law_1210 rfl (by omega) hn ?_
  refine bq_aload_n (i := 0) dL_law_1211 rfl ?_
  refine bq_iload (i := 4) dL_law_1212 rfl ?_
  refine bq_iconst (v := (nI 2)) dL_law_1214 (by decide) ?_
  refine bq_iadd dL_law_1215 ?_
  rw [nI_add]
  refine bq_sld (j := i + 2) dL_law_1216 rfl (by omega) hn ?_
  refine bq_aload_n (i := 3) dL_law_1217 rfl ?_
  refine bq_callS dL_law_1218 ml_L_147 hA (by decide) (by decide) (Nat.le_of_ble_eq_true rfl) rfl (fun v w' hp => ?_) (fun E w' hp => ?_)
  · obtain ⟨α', hE, hQ, eo, rfl⟩ := hp
    cases eo
    obtain ⟨hV2, hI2, e3, e4⟩ := hC α' hQ
    rw [show bt_ad α 5 0 = bt_ad α' 5 0 from ((hE.1 _ _ hV.v5).2).symm, show bt_ad α 6 0 = bt_ad α' 6 0 from ((hE.1 _ _ hV.J6.v6).2).symm, show bt_ad α 8 5 = bt_ad α' 8 5 from ((hE.1 _ _ hV.out.1).2).symm]
    refine bq_istore (i := 5) dL_law_1221 (by decide) ?_
    refine bq_lvs (lv' := [(0, .ref (bp_sb G)), (1, .ref (bt_ad α' 5 0)), (2, .ref (bt_ad α' 6 0)), (3, .ref (bt_ad α' 8 5)), (4, .int (nI i)), (5, .int k)]) ⟨rfl, rfl, rfl, rfl, rfl, rfl, trivial⟩ ?_
    refine bq_aload_n (i := 2) dL_law_1223 rfl ?_
    refine bq_aload_n (i := 0) dL_law_1224 rfl ?_
    refine bq_iload (i := 4) dL_law_1225 rfl ?_
    refine bq_iconst (v := (nI 1)) dL_law_1227 (by decide) ?_
    refine bq_iadd dL_law_1228 ?_
    rw [nI_add]
    refine bq_sld (j := i + 1) dL_law_1229 rfl (by omega) hn ?_
    refine bq_aload_n (i := 0) dL_law_1230 rfl ?_
    refine bq_iload (i := 4) dL_law_1231 rfl ?_
    refine bq_iconst (v := (nI 2)) dL_law_1233 (by decide) ?_
    refine bq_iadd dL_law_1234 ?_
    rw [nI_add]
    refine bq_sld (j := i + 2) dL_law_1235 rfl (by omega) hn ?_
    refine bt_callVr (c := 6) (i := 0) dL_law_1236 rfl ml_L_149 (hJ α' hQ).v6 (by decide) (hB α' hQ) (by decide) (by decide) (Nat.le_of_ble_eq_true rfl) rfl ?_
    refine bq_istore (i := 6) dL_law_1239 (by decide) ?_
    refine bq_lvs (lv' := [(0, .ref (bp_sb G)), (1, .ref (bt_ad α' 5 0)), (2, .ref (bt_ad α' 6 0)), (3, .ref (bt_ad α' 8 5)), (4, .int (nI i)), (5, .int k), (6, .int R.1)]) ⟨rfl, rfl, rfl, rfl, rfl, rfl, rfl, trivial⟩ ?_
    refine bq_aload_n (i := 2) dL_law_1241 rfl ?_
    refine bt_callVr (c := 6) (i := 0) dL_law_1242 rfl ml_L_91 (hJ α' hQ).v6 (by decide) (n_thrown (hJ α' hQ)) (by decide) (by decide) (Nat.le_of_ble_eq_true rfl) rfl ?_
    refine bq_iload (i := 5) dL_law_1245 rfl ?_
    refine bq_icmp_eq (tgt := 1252) dL_law_1247 (by decide) (fun _ => ?_) (fun c => absurd e3 c)
    refine bq_iload (i := 5) dL_law_1252 rfl ?_
    have fin : bq_W G mL_law 13 1269 [(0, .ref (bp_sb G)), (1, .ref (bt_ad α' 5 0)), (2, .ref (bt_ad α' 6 0)), (3, .ref (bt_ad α' 8 5)), (4, .int (nI i)), (5, .int k), (6, .int R.1)] [] (bt α' R.2.1 R.2.2) Φ := by
      refine bq_goto (tgt := 1453) dL_law_1269 (by decide) ?_
      refine bq_lvs (lv' := [(0, .ref (bp_sb G)), (1, .ref (bt_ad α' 5 0)), (2, .ref (bt_ad α' 6 0)), (3, .ref (bt_ad α' 8 5)), (4, .int (nI i))]) ⟨rfl, rfl, rfl, rfl, rfl, trivial⟩ ?_
      exact kk α' _ _ hV2 hI2 hE.2.2.2
    refine bq_if_ne (tgt := 1269) dL_law_1254 (by decide) (fun _ => fin) (fun c => ?_)
    refine bq_aload_n (i := 3) dL_law_1257 rfl ?_
    refine bq_iconst (v := (nI 0)) dL_law_1258 (by decide) ?_
    refine bt_lald1 (n := 5) (j := 0) (len := 1) dL_law_1259 hV2.out rfl (by decide) (by decide) rfl ?_
    rw [e4 c]
    refine bq_iload (i := 6) dL_law_1260 rfl ?_
    refine bq_i2l dL_law_1262 ?_
    refine bq_lcmp dL_law_1263 ?_
    refine bq_if_eq (tgt := 1269) dL_law_1264 (by decide) (fun _ => fin) (fun c => absurd (lg_cmp_self _) c)
  · obtain ⟨_, _, _, e, _⟩ := hp
    cases e
set_option maxRecDepth 100000 in
set_option maxHeartbeats 1000000 in
theorem l_18 (hL : i + 6 ≤ bp_sL G) (hn : bp_sL G < 2 ^ 31) (hV : z_V α σ) (h : v_Inv σ x) (hroom : bt_us α + 110 ≤ bp_max) (kk : ∀ α' σ' x', z_V α' σ' → v_Inv σ' x' → bt_us α' ≤ bt_us α + 110 → bq_W G mL_law 13 1453 [(0, .ref (bp_sb G)), (1, .ref (bt_ad α' 5 0)), (2, .ref (bt_ad α' 6 0)), (3, .ref (bt_ad α' 8 5)), (4, .int (nI i))] [] (bt α' σ' x') Φ) : bq_W G mL_law 13 1272 [(0, .ref (bp_sb G)), (1, .ref (bt_ad α 5 0)), (2, .ref (bt_ad α 6 0)), (3, .ref (bt_ad α 8 5)), (4, .int (nI i))] [] (bt α σ x) Φ := by
  obtain ⟨u, w, hA, hB, hV2, hI2⟩ := y_crit (G := G) hV h hroom
  refine bq_aload_n (i := 1) dL_law_1272 rfl ?_
  refine bt_callVr (c := 5) (i := 0) dL_law_1273 rfl ml_L_150 hV.v5 (by decide) hA (by decide) (by decide) (Nat.le_of_ble_eq_true rfl) rfl ?_
  refine bq_aload_n (i := 2) dL_law_1276 rfl ?_
  refine bt_callVr (c := 6) (i := 0) dL_law_1277 rfl ml_L_153 hV.J6.v6 (by decide) hB (by decide) (by decide) (Nat.le_of_ble_eq_true rfl) rfl ?_
  refine bq_icmp_eq (tgt := 1453) dL_law_1280 (by decide) (fun _ => ?_) (fun c => absurd rfl c)
  exact kk α _ _ hV2 hI2 (Nat.le_add_right _ _)
set_option maxRecDepth 100000 in
set_option maxHeartbeats 1000000 in
theorem l_19 (hL : i + 6 ≤ bp_sL G) (hn : bp_sL G < 2 ^ 31) (hV : z_V α σ) (h : v_Inv σ x) (hroom : bt_us α + 110 ≤ bp_max) (kk : ∀ α' σ' x', z_V α' σ' → v_Inv σ' x' → bt_us α' ≤ bt_us α + 110 → bq_W G mL_law 13 1453 [(0, .ref (bp_sb G)), (1, .ref (bt_ad α' 5 0)), (2, .ref (bt_ad α' 6 0)), (3, .ref (bt_ad α' 8 5)), (4, .int (nI i))] [] (bt α' σ' x') Φ) : bq_W G mL_law 13 1285 [(0, .ref (bp_sb G)), (1, .ref (bt_ad α 5 0)), (2, .ref (bt_ad α 6 0)), (3, .ref (bt_ad α 8 5)), (4, .int (nI i))] [] (bt α σ x) Φ := by
  obtain ⟨Q, k, σ1, w, R, hA, hB, hC, hJ⟩ := y_criticalAt (G := G) (p0 := bp_xs G (i + 1)) hV h hroom
  refine bq_aload_n (i := 1) dL_law_1285 rfl ?_
  refine bq_aload_n (i := 0) dL_law_1286 rfl ?_
  refine bq_iload (i := 4) dL_law_1287 rfl ?_
  refine bq_iconst (v := (nI 1)) dL_law_1289 (by decide) ?_
  refine bq_iadd dL_law_1290 ?_
  rw [nI_add]
  refine bq_sld (j := i + 1) dL_law_1291 rfl (by omega) hn ?_
  refine bq_aload_n (i := 3) dL_law_1292 rfl ?_
  refine bq_callS dL_law_1293 ml_L_154 hA (by decide) (by decide) (Nat.le_of_ble_eq_true rfl) rfl (fun v w' hp => ?_) (fun E w' hp => ?_)
  · obtain ⟨α', hE, hQ, eo, rfl⟩ := hp
    cases eo
    obtain ⟨hV2, hI2, e3, e4⟩ := hC α' hQ
    rw [show bt_ad α 5 0 = bt_ad α' 5 0 from ((hE.1 _ _ hV.v5).2).symm, show bt_ad α 6 0 = bt_ad α' 6 0 from ((hE.1 _ _ hV.J6.v6).2).symm, show bt_ad α 8 5 = bt_ad α' 8 5 from ((hE.1 _ _ hV.out.1).2).symm]
    refine bq_istore (i := 5) dL_law_1296 (by decide) ?_
    refine bq_lvs (lv' := [(0, .ref (bp_sb G)), (1, .ref (bt_ad α' 5 0)), (2, .ref (bt_ad α' 6 0)), (3, .ref (bt_ad α' 8 5)), (4, .int (nI i)), (5, .int k)]) ⟨rfl, rfl, rfl, rfl, rfl, rfl, trivial⟩ ?_
    refine bq_aload_n (i := 2) dL_law_1298 rfl ?_
    refine bq_aload_n (i := 0) dL_law_1299 rfl ?_
    refine bq_iload (i := 4) dL_law_1300 rfl ?_
    refine bq_iconst (v := (nI 1)) dL_law_1302 (by decide) ?_
    refine bq_iadd dL_law_1303 ?_
    rw [nI_add]
    refine bq_sld (j := i + 1) dL_law_1304 rfl (by omega) hn ?_
    refine bt_callVr (c := 6) (i := 0) dL_law_1305 rfl ml_L_156 (hJ α' hQ).v6 (by decide) (hB α' hQ) (by decide) (by decide) (Nat.le_of_ble_eq_true rfl) rfl ?_
    refine bq_istore (i := 6) dL_law_1308 (by decide) ?_
    refine bq_lvs (lv' := [(0, .ref (bp_sb G)), (1, .ref (bt_ad α' 5 0)), (2, .ref (bt_ad α' 6 0)), (3, .ref (bt_ad α' 8 5)), (4, .int (nI i)), (5, .int k), (6, .int R.1)]) ⟨rfl, rfl, rfl, rfl, rfl, rfl, rfl, trivial⟩ ?_
    refine bq_aload_n (i := 2) dL_law_1310 rfl ?_
    refine bt_callVr (c := 6) (i := 0) dL_law_1311 rfl ml_L_91 (hJ α' hQ).v6 (by decide) (n_thrown (hJ α' hQ)) (by decide) (by decide) (Nat.le_of_ble_eq_true rfl) rfl ?_
    refine bq_iload (i := 5) dL_law_1314 rfl ?_
    refine bq_icmp_eq (tgt := 1321) dL_law_1316 (by decide) (fun _ => ?_) (fun c => absurd e3 c)
    refine bq_iload (i := 5) dL_law_1321 rfl ?_
    have fin : bq_W G mL_law 13 1338 [(0, .ref (bp_sb G)), (1, .ref (bt_ad α' 5 0)), (2, .ref (bt_ad α' 6 0)), (3, .ref (bt_ad α' 8 5)), (4, .int (nI i)), (5, .int k), (6, .int R.1)] [] (bt α' R.2.1 R.2.2) Φ := by
      refine bq_goto (tgt := 1453) dL_law_1338 (by decide) ?_
      refine bq_lvs (lv' := [(0, .ref (bp_sb G)), (1, .ref (bt_ad α' 5 0)), (2, .ref (bt_ad α' 6 0)), (3, .ref (bt_ad α' 8 5)), (4, .int (nI i))]) ⟨rfl, rfl, rfl, rfl, rfl, trivial⟩ ?_
      exact kk α' _ _ hV2 hI2 hE.2.2.2
    refine bq_if_ne (tgt := 1338) dL_law_1323 (by decide) (fun _ => fin) (fun c => ?_)
    refine bq_aload_n (i := 3) dL_law_1326 rfl ?_
    refine bq_iconst (v := (nI 0)) dL_law_1327 (by decide) ?_
    refine bt_lald1 (n := 5) (j := 0) (len := 1) dL_law_1328 hV2.out rfl (by decide) (by decide) rfl ?_
    rw [e4 c]
    refine bq_iload (i := 6) dL_law_1329 rfl ?_
    refine bq_i2l dL_law_1331 ?_
    refine bq_lcmp dL_law_1332 ?_
    refine bq_if_eq (tgt := 1338) dL_law_1333 (by decide) (fun _ => fin) (fun c => absurd (lg_cmp_self _) c)
  · obtain ⟨_, _, _, e, _⟩ := hp
    cases e
set_option maxRecDepth 100000 in
set_option maxHeartbeats 1000000 in
theorem l_20 (hL : i + 6 ≤ bp_sL G) (hn : bp_sL G < 2 ^ 31) (hV : z_V α σ) (h : v_Inv σ x) (hroom : bt_us α + 110 ≤ bp_max) (kk : ∀ α' σ' x', z_V α' σ' → v_Inv σ' x' → bt_us α' ≤ bt_us α + 110 → bq_W G mL_law 13 1453 [(0, .ref (bp_sb G)), (1, .ref (bt_ad α' 5 0)), (2, .ref (bt_ad α' 6 0)), (3, .ref (bt_ad α' 8 5)), (4, .int (nI i))] [] (bt α' σ' x') Φ) : bq_W G mL_law 13 1341 [(0, .ref (bp_sb G)), (1, .ref (bt_ad α 5 0)), (2, .ref (bt_ad α 6 0)), (3, .ref (bt_ad α 8 5)), (4, .int (nI i))] [] (bt α σ x) Φ := by
  obtain ⟨Q, k, σ1, w, R, hA, hB, hC, hJ⟩ := y_setups (G := G) (p0 := bp_xs G (i + 1)) hV h hroom
  refine bq_aload_n (i := 1) dL_law_1341 rfl ?_
  refine bq_aload_n (i := 0) dL_law_1342 rfl ?_
  refine bq_iload (i := 4) dL_law_1343 rfl ?_
  refine bq_iconst (v := (nI 1)) dL_law_1345 (by decide) ?_
  refine bq_iadd dL_law_1346 ?_
  rw [nI_add]
  refine bq_sld (j := i + 1) dL_law_1347 rfl (by omega) hn ?_
  refine bq_aload_n (i := 3) dL_law_1348 rfl ?_
  refine bq_callS dL_law_1349 ml_L_157 hA (by decide) (by decide) (Nat.le_of_ble_eq_true rfl) rfl (fun v w' hp => ?_) (fun E w' hp => ?_)
  · obtain ⟨α', hE, hQ, eo, rfl⟩ := hp
    cases eo
    obtain ⟨hV2, hI2, e3, e4⟩ := hC α' hQ
    rw [show bt_ad α 5 0 = bt_ad α' 5 0 from ((hE.1 _ _ hV.v5).2).symm, show bt_ad α 6 0 = bt_ad α' 6 0 from ((hE.1 _ _ hV.J6.v6).2).symm, show bt_ad α 8 5 = bt_ad α' 8 5 from ((hE.1 _ _ hV.out.1).2).symm]
    refine bq_istore (i := 5) dL_law_1352 (by decide) ?_
    refine bq_lvs (lv' := [(0, .ref (bp_sb G)), (1, .ref (bt_ad α' 5 0)), (2, .ref (bt_ad α' 6 0)), (3, .ref (bt_ad α' 8 5)), (4, .int (nI i)), (5, .int k)]) ⟨rfl, rfl, rfl, rfl, rfl, rfl, trivial⟩ ?_
    refine bq_aload_n (i := 2) dL_law_1354 rfl ?_
    refine bq_aload_n (i := 0) dL_law_1355 rfl ?_
    refine bq_iload (i := 4) dL_law_1356 rfl ?_
    refine bq_iconst (v := (nI 1)) dL_law_1358 (by decide) ?_
    refine bq_iadd dL_law_1359 ?_
    rw [nI_add]
    refine bq_sld (j := i + 1) dL_law_1360 rfl (by omega) hn ?_
    refine bt_callVr (c := 6) (i := 0) dL_law_1361 rfl ml_L_159 (hJ α' hQ).v6 (by decide) (hB α' hQ) (by decide) (by decide) (Nat.le_of_ble_eq_true rfl) rfl ?_
    refine bq_istore (i := 6) dL_law_1364 (by decide) ?_
    refine bq_lvs (lv' := [(0, .ref (bp_sb G)), (1, .ref (bt_ad α' 5 0)), (2, .ref (bt_ad α' 6 0)), (3, .ref (bt_ad α' 8 5)), (4, .int (nI i)), (5, .int k), (6, .int R.1)]) ⟨rfl, rfl, rfl, rfl, rfl, rfl, rfl, trivial⟩ ?_
    refine bq_aload_n (i := 2) dL_law_1366 rfl ?_
    refine bt_callVr (c := 6) (i := 0) dL_law_1367 rfl ml_L_91 (hJ α' hQ).v6 (by decide) (n_thrown (hJ α' hQ)) (by decide) (by decide) (Nat.le_of_ble_eq_true rfl) rfl ?_
    refine bq_iload (i := 5) dL_law_1370 rfl ?_
    refine bq_icmp_eq (tgt := 1377) dL_law_1372 (by decide) (fun _ => ?_) (fun c => absurd e3 c)
    refine bq_iload (i := 5) dL_law_1377 rfl ?_
    have fin : bq_W G mL_law 13 1394 [(0, .ref (bp_sb G)), (1, .ref (bt_ad α' 5 0)), (2, .ref (bt_ad α' 6 0)), (3, .ref (bt_ad α' 8 5)), (4, .int (nI i)), (5, .int k), (6, .int R.1)] [] (bt α' R.2.1 R.2.2) Φ := by
      refine bq_goto (tgt := 1453) dL_law_1394 (by decide) ?_
      refine bq_lvs (lv' := [(0, .ref (bp_sb G)), (1, .ref (bt_ad α' 5 0)), (2, .ref (bt_ad α' 6 0)), (3, .ref (bt_ad α' 8 5)), (4, .int (nI i))]) ⟨rfl, rfl, rfl, rfl, rfl, trivial⟩ ?_
      exact kk α' _ _ hV2 hI2 hE.2.2.2
    refine bq_if_ne (tgt := 1394) dL_law_1379 (by decide) (fun _ => fin) (fun c => ?_)
    refine bq_aload_n (i := 3) dL_law_1382 rfl ?_
    refine bq_iconst (v := (nI 0)) dL_law_1383 (by decide) ?_
    refine bt_lald1 (n := 5) (j := 0) (len := 1) dL_law_1384 hV2.out rfl (by decide) (by decide) rfl ?_
    rw [e4 c]
    refine bq_iload (i := 6) dL_law_1385 rfl ?_
    refine bq_i2l dL_law_1387 ?_
    refine bq_lcmp dL_law_1388 ?_
    refine bq_if_eq (tgt := 1394) dL_law_1389 (by decide) (fun _ => fin) (fun c => absurd (lg_cmp_self _) c)
  · obtain ⟨_, _, _, e, _⟩ := hp
    cases e
set_option maxRecDepth 100000 in
set_option maxHeartbeats 1000000 in
theorem l_21 (hL : i + 6 ≤ bp_sL G) (hn : bp_sL G < 2 ^ 31) (hV : z_V α σ) (h : v_Inv σ x) (hroom : bt_us α + 110 ≤ bp_max) (kk : ∀ α' σ' x', z_V α' σ' → v_Inv σ' x' → bt_us α' ≤ bt_us α + 110 → bq_W G mL_law 13 1453 [(0, .ref (bp_sb G)), (1, .ref (bt_ad α' 5 0)), (2, .ref (bt_ad α' 6 0)), (3, .ref (bt_ad α' 8 5)), (4, .int (nI i))] [] (bt α' σ' x') Φ) : bq_W G mL_law 13 1397 [(0, .ref (bp_sb G)), (1, .ref (bt_ad α 5 0)), (2, .ref (bt_ad α 6 0)), (3, .ref (bt_ad α 8 5)), (4, .int (nI i))] [] (bt α σ x) Φ := by
  obtain ⟨Q, k, σ1, w, R, hA, hB, hC, hJ⟩ := y_loads (G := G) (p0 := bp_xs G (i + 1)) hV h hroom
  refine bq_aload_n (i := 1) dL_law_1397 rfl ?_
  refine bq_aload_n (i := 0) dL_law_1398 rfl ?_
  refine bq_iload (i := 4) dL_law_1399 rfl ?_
  refine bq_iconst (v := (nI 1)) dL_law_1401 (by decide) ?_
  refine bq_iadd dL_law_1402 ?_
  rw [nI_add]
  refine bq_sld (j := i + 1) dL_law_1403 rfl (by omega) hn ?_
  refine bq_aload_n (i := 3) dL_law_1404 rfl ?_
  refine bq_callS dL_law_1405 ml_L_160 hA (by decide) (by decide) (Nat.le_of_ble_eq_true rfl) rfl (fun v w' hp => ?_) (fun E w' hp => ?_)
  · obtain ⟨α', hE, hQ, eo, rfl⟩ := hp
    cases eo
    obtain ⟨hV2, hI2, e3, e4⟩ := hC α' hQ
    rw [show bt_ad α 5 0 = bt_ad α' 5 0 from ((hE.1 _ _ hV.v5).2).symm, show bt_ad α 6 0 = bt_ad α' 6 0 from ((hE.1 _ _ hV.J6.v6).2).symm, show bt_ad α 8 5 = bt_ad α' 8 5 from ((hE.1 _ _ hV.out.1).2).symm]
    refine bq_istore (i := 5) dL_law_1408 (by decide) ?_
    refine bq_lvs (lv' := [(0, .ref (bp_sb G)), (1, .ref (bt_ad α' 5 0)), (2, .ref (bt_ad α' 6 0)), (3, .ref (bt_ad α' 8 5)), (4, .int (nI i)), (5, .int k)]) ⟨rfl, rfl, rfl, rfl, rfl, rfl, trivial⟩ ?_
    refine bq_aload_n (i := 2) dL_law_1410 rfl ?_
    refine bq_aload_n (i := 0) dL_law_1411 rfl ?_
    refine bq_iload (i := 4) dL_law_1412 rfl ?_
    refine bq_iconst (v := (nI 1)) dL_law_1414 (by decide) ?_
    refine bq_iadd dL_law_1415 ?_
    rw [nI_add]
    refine bq_sld (j := i + 1) dL_law_1416 rfl (by omega) hn ?_
    refine bt_callVr (c := 6) (i := 0) dL_law_1417 rfl ml_L_162 (hJ α' hQ).v6 (by decide) (hB α' hQ) (by decide) (by decide) (Nat.le_of_ble_eq_true rfl) rfl ?_
    refine bq_istore (i := 6) dL_law_1420 (by decide) ?_
    refine bq_lvs (lv' := [(0, .ref (bp_sb G)), (1, .ref (bt_ad α' 5 0)), (2, .ref (bt_ad α' 6 0)), (3, .ref (bt_ad α' 8 5)), (4, .int (nI i)), (5, .int k), (6, .int R.1)]) ⟨rfl, rfl, rfl, rfl, rfl, rfl, rfl, trivial⟩ ?_
    refine bq_aload_n (i := 2) dL_law_1422 rfl ?_
    refine bt_callVr (c := 6) (i := 0) dL_law_1423 rfl ml_L_91 (hJ α' hQ).v6 (by decide) (n_thrown (hJ α' hQ)) (by decide) (by decide) (Nat.le_of_ble_eq_true rfl) rfl ?_
    refine bq_iload (i := 5) dL_law_1426 rfl ?_
    refine bq_icmp_eq (tgt := 1433) dL_law_1428 (by decide) (fun _ => ?_) (fun c => absurd e3 c)
    refine bq_iload (i := 5) dL_law_1433 rfl ?_
    have fin : bq_W G mL_law 13 1450 [(0, .ref (bp_sb G)), (1, .ref (bt_ad α' 5 0)), (2, .ref (bt_ad α' 6 0)), (3, .ref (bt_ad α' 8 5)), (4, .int (nI i)), (5, .int k), (6, .int R.1)] [] (bt α' R.2.1 R.2.2) Φ := by
      refine bq_goto (tgt := 1453) dL_law_1450 (by decide) ?_
      refine bq_lvs (lv' := [(0, .ref (bp_sb G)), (1, .ref (bt_ad α' 5 0)), (2, .ref (bt_ad α' 6 0)), (3, .ref (bt_ad α' 8 5)), (4, .int (nI i))]) ⟨rfl, rfl, rfl, rfl, rfl, trivial⟩ ?_
      exact kk α' _ _ hV2 hI2 hE.2.2.2
    refine bq_if_ne (tgt := 1450) dL_law_1435 (by decide) (fun _ => fin) (fun c => ?_)
    refine bq_aload_n (i := 3) dL_law_1438 rfl ?_
    refine bq_iconst (v := (nI 0)) dL_law_1439 (by decide) ?_
    refine bt_lald1 (n := 5) (j := 0) (len := 1) dL_law_1440 hV2.out rfl (by decide) (by decide) rfl ?_
    rw [e4 c]
    refine bq_iload (i := 6) dL_law_1441 rfl ?_
    refine bq_i2l dL_law_1443 ?_
    refine bq_lcmp dL_law_1444 ?_
    refine bq_if_eq (tgt := 1450) dL_law_1445 (by decide) (fun _ => fin) (fun c => absurd (lg_cmp_self _) c)
  · obtain ⟨_, _, _, e, _⟩ := hp
    cases e
end VLC
