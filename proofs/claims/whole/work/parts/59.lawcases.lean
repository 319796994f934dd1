/-! the law's cases, by program -/
section LCASE
variable {X : gX} {aM : Nat → Nat} {b L : Nat} {xv : Nat → Int32} {σ τ : gM} {B i : Int} {Lc : List (Nat × Value)}
theorem lcase_0 (C : lC X aM b L xv) (hLc : Lc = [(3, .int (Int32.ofInt i)), (2, .ref (aM 0)), (1, .ref (xd X 0)), (0, .ref b)]) (h0 : 0 ≤ i) (h1 : i + 5 ≤ (L : Int)) (h : RR B σ τ) (hB0 : 0 ≤ B) (hB : B + 2000000 ≤ 1073741824) (iC : gIn gctC σ) (iM : gIn gctM τ) (k : ∀ σ' τ', RR (B + 2000000) σ' τ' → gIn gctC σ' → gIn gctM τ' → LL X aM 922 Lc [] σ' τ') : LL X aM 140 Lc [] σ τ := by
  subst hLc
  obtain ⟨s, r, s', r', e1, e2, er, hr⟩ := limit_P (v := lv xv (i + 1)) h
  subst er
  refine l_aload C dL_140 rfl 2 rfl ?_
  refine l_arg C (kk := 1) (x1 := 3) (x2 := 0) h0 (by omega) (by decide) rfl rfl dL_141 dL_142 dL_143 dL_144 dL_145 ?_
  refine l_callC C (st := []) [.inl (lv xv (i + 1))] rfl (c_Co_limit e1 (gOk_cons trivial (gOk_cons (lv_32 _ _) (fun v hv => by cases hv))) iC) ⟨⟨lwm_13, lwi_Co_limit, lws_Co_limit, lwz_6, lwc_Co_limit⟩, by decide, by decide, (show (parseMethodDescriptor Y_Co_limit.desc).map (fun d => d.parameters.length) = some 1 from by decide +kernel)⟩ (by decide) (Nat.le_of_ble_eq_true rfl) dL_146 (fun iC2 _ => ?_)
  refine l_aload C dL_149 rfl 1 rfl ?_
  refine l_arg C (kk := 1) (x1 := 3) (x2 := 0) h0 (by omega) (by decide) rfl rfl dL_150 dL_151 dL_152 dL_153 dL_154 ?_
  refine l_callM C (st := [.int (Int32.ofInt _)]) [.inl (lv xv (i + 1))] rfl (c_Mo_limit e2 (gOk_cons trivial (gOk_cons (lv_32 _ _) (fun v hv => by cases hv))) iM) ⟨⟨lwm_17, lwi_Mo_limit, lws_Mo_limit, lwz_7, lwc_Mo_limit⟩, by decide, by decide, (show (parseMethodDescriptor Y_Mo_limit.desc).map (fun d => d.parameters.length) = some 1 from by decide +kernel)⟩ (by decide) (Nat.le_of_ble_eq_true rfl) dL_155 (fun iM2 _ => ?_)
  exact l_same C dL_158 (by decide) (k _ _ hr iC2 iM2)
theorem lcase_1 (C : lC X aM b L xv) (hLc : Lc = [(3, .int (Int32.ofInt i)), (2, .ref (aM 0)), (1, .ref (xd X 0)), (0, .ref b)]) (h0 : 0 ≤ i) (h1 : i + 5 ≤ (L : Int)) (h : RR B σ τ) (hB0 : 0 ≤ B) (hB : B + 2000000 ≤ 1073741824) (iC : gIn gctC σ) (iM : gIn gctM τ) (k : ∀ σ' τ', RR (B + 2000000) σ' τ' → gIn gctC σ' → gIn gctM τ' → LL X aM 922 Lc [] σ' τ') : LL X aM 163 Lc [] σ τ := by
  subst hLc
  obtain ⟨s, r, s', r', e1, e2, er, hr⟩ := flip_P (v1 := lv xv (i + 1)) (v2 := lv xv (i + 2)) h
  subst er
  refine l_aload C dL_163 rfl 2 rfl ?_
  refine l_arg C (kk := 1) (x1 := 3) (x2 := 0) h0 (by omega) (by decide) rfl rfl dL_164 dL_165 dL_166 dL_167 dL_168 ?_
  refine l_arg C (kk := 2) (x1 := 3) (x2 := 0) h0 (by omega) (by decide) rfl rfl dL_169 dL_170 dL_171 dL_172 dL_173 ?_
  refine l_callC C (st := []) [.inl (lv xv (i + 1)), .inl (lv xv (i + 2))] rfl (c_Co_flip e1 (gOk_cons trivial (gOk_cons (lv_32 _ _) (gOk_cons (lv_32 _ _) (fun v hv => by cases hv)))) iC) ⟨⟨lwm_18, lwi_Co_flip, lws_Co_flip, lwz_6, lwc_Co_flip⟩, by decide, by decide, (show (parseMethodDescriptor Y_Co_flip.desc).map (fun d => d.parameters.length) = some 2 from by decide +kernel)⟩ (by decide) (Nat.le_of_ble_eq_true rfl) dL_174 (fun iC2 _ => ?_)
  refine l_aload C dL_177 rfl 1 rfl ?_
  refine l_arg C (kk := 1) (x1 := 3) (x2 := 0) h0 (by omega) (by decide) rfl rfl dL_178 dL_179 dL_180 dL_181 dL_182 ?_
  refine l_arg C (kk := 2) (x1 := 3) (x2 := 0) h0 (by omega) (by decide) rfl rfl dL_183 dL_184 dL_185 dL_186 dL_187 ?_
  refine l_callM C (st := [.int (Int32.ofInt _)]) [.inl (lv xv (i + 1)), .inl (lv xv (i + 2))] rfl (c_Mo_flip e2 (gOk_cons trivial (gOk_cons (lv_32 _ _) (gOk_cons (lv_32 _ _) (fun v hv => by cases hv)))) iM) ⟨⟨lwm_22, lwi_Mo_flip, lws_Mo_flip, lwz_7, lwc_Mo_flip⟩, by decide, by decide, (show (parseMethodDescriptor Y_Mo_flip.desc).map (fun d => d.parameters.length) = some 2 from by decide +kernel)⟩ (by decide) (Nat.le_of_ble_eq_true rfl) dL_188 (fun iM2 _ => ?_)
  exact l_same C dL_191 (by decide) (k _ _ hr iC2 iM2)
theorem lcase_2 (C : lC X aM b L xv) (hLc : Lc = [(3, .int (Int32.ofInt i)), (2, .ref (aM 0)), (1, .ref (xd X 0)), (0, .ref b)]) (h0 : 0 ≤ i) (h1 : i + 5 ≤ (L : Int)) (h : RR B σ τ) (hB0 : 0 ≤ B) (hB : B + 2000000 ≤ 1073741824) (iC : gIn gctC σ) (iM : gIn gctM τ) (k : ∀ σ' τ', RR (B + 2000000) σ' τ' → gIn gctC σ' → gIn gctM τ' → LL X aM 922 Lc [] σ' τ') : LL X aM 196 Lc [] σ τ := by
  subst hLc
  obtain ⟨s, r, s', r', e1, e2, er, hr⟩ := refresh_P (v1 := lv xv (i + 1)) (v2 := lv xv (i + 2)) h hB0
  subst er
  refine l_aload C dL_196 rfl 2 rfl ?_
  refine l_arg C (kk := 1) (x1 := 3) (x2 := 0) h0 (by omega) (by decide) rfl rfl dL_197 dL_198 dL_199 dL_200 dL_201 ?_
  refine l_arg C (kk := 2) (x1 := 3) (x2 := 0) h0 (by omega) (by decide) rfl rfl dL_202 dL_203 dL_204 dL_205 dL_206 ?_
  refine l_callC C (st := []) [.inl (lv xv (i + 1)), .inl (lv xv (i + 2))] rfl (c_Co_refresh e1 (gOk_cons trivial (gOk_cons (lv_32 _ _) (gOk_cons (lv_32 _ _) (fun v hv => by cases hv)))) iC) ⟨⟨lwm_23, lwi_Co_refresh, lws_Co_refresh, lwz_6, lwc_Co_refresh⟩, by decide, by decide, (show (parseMethodDescriptor Y_Co_refresh.desc).map (fun d => d.parameters.length) = some 2 from by decide +kernel)⟩ (by decide) (Nat.le_of_ble_eq_true rfl) dL_207 (fun iC2 _ => ?_)
  refine l_aload C dL_210 rfl 1 rfl ?_
  refine l_arg C (kk := 1) (x1 := 3) (x2 := 0) h0 (by omega) (by decide) rfl rfl dL_211 dL_212 dL_213 dL_214 dL_215 ?_
  refine l_arg C (kk := 2) (x1 := 3) (x2 := 0) h0 (by omega) (by decide) rfl rfl dL_216 dL_217 dL_218 dL_219 dL_220 ?_
  refine l_callM C (st := [.int (Int32.ofInt _)]) [.inl (lv xv (i + 1)), .inl (lv xv (i + 2))] rfl (c_Mo_refresh e2 (gOk_cons trivial (gOk_cons (lv_32 _ _) (gOk_cons (lv_32 _ _) (fun v hv => by cases hv)))) iM) ⟨⟨lwm_26, lwi_Mo_refresh, lws_Mo_refresh, lwz_7, lwc_Mo_refresh⟩, by decide, by decide, (show (parseMethodDescriptor Y_Mo_refresh.desc).map (fun d => d.parameters.length) = some 2 from by decide +kernel)⟩ (by decide) (Nat.le_of_ble_eq_true rfl) dL_221 (fun iM2 _ => ?_)
  exact l_same C dL_224 (by decide) (k _ _ hr iC2 iM2)
theorem lcase_3 (C : lC X aM b L xv) (hLc : Lc = [(3, .int (Int32.ofInt i)), (2, .ref (aM 0)), (1, .ref (xd X 0)), (0, .ref b)]) (h0 : 0 ≤ i) (h1 : i + 5 ≤ (L : Int)) (h : RR B σ τ) (hB0 : 0 ≤ B) (hB : B + 2000000 ≤ 1073741824) (iC : gIn gctC σ) (iM : gIn gctM τ) (k : ∀ σ' τ', RR (B + 2000000) σ' τ' → gIn gctC σ' → gIn gctM τ' → LL X aM 922 Lc [] σ' τ') : LL X aM 229 Lc [] σ τ := by
  subst hLc
  obtain ⟨s, r, s', r', e1, e2, er, hr⟩ := cell_P (v1 := lv xv (i + 1)) (v2 := lv xv (i + 2)) h
  subst er
  refine l_aload C dL_229 rfl 2 rfl ?_
  refine l_arg C (kk := 1) (x1 := 3) (x2 := 0) h0 (by omega) (by decide) rfl rfl dL_230 dL_231 dL_232 dL_233 dL_234 ?_
  refine l_arg C (kk := 2) (x1 := 3) (x2 := 0) h0 (by omega) (by decide) rfl rfl dL_235 dL_236 dL_237 dL_238 dL_239 ?_
  refine l_callC C (st := []) [.inl (lv xv (i + 1)), .inl (lv xv (i + 2))] rfl (c_Co_cell e1 (gOk_cons trivial (gOk_cons (lv_32 _ _) (gOk_cons (lv_32 _ _) (fun v hv => by cases hv)))) iC) ⟨⟨lwm_27, lwi_Co_cell, lws_Co_cell, lwz_6, lwc_Co_cell⟩, by decide, by decide, (show (parseMethodDescriptor Y_Co_cell.desc).map (fun d => d.parameters.length) = some 2 from by decide +kernel)⟩ (by decide) (Nat.le_of_ble_eq_true rfl) dL_240 (fun iC2 _ => ?_)
  refine l_aload C dL_243 rfl 1 rfl ?_
  refine l_arg C (kk := 1) (x1 := 3) (x2 := 0) h0 (by omega) (by decide) rfl rfl dL_244 dL_245 dL_246 dL_247 dL_248 ?_
  refine l_arg C (kk := 2) (x1 := 3) (x2 := 0) h0 (by omega) (by decide) rfl rfl dL_249 dL_250 dL_251 dL_252 dL_253 ?_
  refine l_callM C (st := [.int (Int32.ofInt _)]) [.inl (lv xv (i + 1)), .inl (lv xv (i + 2))] rfl (c_Mo_cell e2 (gOk_cons trivial (gOk_cons (lv_32 _ _) (gOk_cons (lv_32 _ _) (fun v hv => by cases hv)))) iM) ⟨⟨lwm_30, lwi_Mo_cell, lws_Mo_cell, lwz_7, lwc_Mo_cell⟩, by decide, by decide, (show (parseMethodDescriptor Y_Mo_cell.desc).map (fun d => d.parameters.length) = some 2 from by decide +kernel)⟩ (by decide) (Nat.le_of_ble_eq_true rfl) dL_254 (fun iM2 _ => ?_)
  exact l_same C dL_257 (by decide) (k _ _ hr iC2 iM2)
theorem lcase_4 (C : lC X aM b L xv) (hLc : Lc = [(3, .int (Int32.ofInt i)), (2, .ref (aM 0)), (1, .ref (xd X 0)), (0, .ref b)]) (h0 : 0 ≤ i) (h1 : i + 5 ≤ (L : Int)) (h : RR B σ τ) (hB0 : 0 ≤ B) (hB : B + 2000000 ≤ 1073741824) (iC : gIn gctC σ) (iM : gIn gctM τ) (k : ∀ σ' τ', RR (B + 2000000) σ' τ' → gIn gctC σ' → gIn gctM τ' → LL X aM 922 Lc [] σ' τ') : LL X aM 262 Lc [] σ τ := by
  subst hLc
  obtain ⟨s, r, s', r', e1, e2, er, hr⟩ := open_P (v1 := lv xv (i + 1)) h
  subst er
  refine l_aload C dL_262 rfl 2 rfl ?_
  refine l_arg C (kk := 1) (x1 := 3) (x2 := 0) h0 (by omega) (by decide) rfl rfl dL_263 dL_264 dL_265 dL_266 dL_267 ?_
  refine l_callC C (st := []) [.inl (lv xv (i + 1))] rfl (c_Co_open e1 (gOk_cons trivial (gOk_cons (lv_32 _ _) (fun v hv => by cases hv))) iC) ⟨⟨lwm_31, lwi_Co_open, lws_Co_open, lwz_6, lwc_Co_open⟩, by decide, by decide, (show (parseMethodDescriptor Y_Co_open.desc).map (fun d => d.parameters.length) = some 1 from by decide +kernel)⟩ (by decide) (Nat.le_of_ble_eq_true rfl) dL_268 (fun iC2 _ => ?_)
  refine l_aload C dL_271 rfl 1 rfl ?_
  refine l_arg C (kk := 1) (x1 := 3) (x2 := 0) h0 (by omega) (by decide) rfl rfl dL_272 dL_273 dL_274 dL_275 dL_276 ?_
  refine l_callM C (st := [.int (Int32.ofInt _)]) [.inl (lv xv (i + 1))] rfl (c_Mo_open e2 (gOk_cons trivial (gOk_cons (lv_32 _ _) (fun v hv => by cases hv))) iM) ⟨⟨lwm_34, lwi_Mo_open, lws_Mo_open, lwz_7, lwc_Mo_open⟩, by decide, by decide, (show (parseMethodDescriptor Y_Mo_open.desc).map (fun d => d.parameters.length) = some 1 from by decide +kernel)⟩ (by decide) (Nat.le_of_ble_eq_true rfl) dL_277 (fun iM2 _ => ?_)
  exact l_same C dL_280 (by decide) (k _ _ hr iC2 iM2)
theorem lcase_5 (C : lC X aM b L xv) (hLc : Lc = [(3, .int (Int32.ofInt i)), (2, .ref (aM 0)), (1, .ref (xd X 0)), (0, .ref b)]) (h0 : 0 ≤ i) (h1 : i + 5 ≤ (L : Int)) (h : RR B σ τ) (hB0 : 0 ≤ B) (hB : B + 2000000 ≤ 1073741824) (iC : gIn gctC σ) (iM : gIn gctM τ) (k : ∀ σ' τ', RR (B + 2000000) σ' τ' → gIn gctC σ' → gIn gctM τ' → LL X aM 922 Lc [] σ' τ') : LL X aM 285 Lc [] σ τ := by
  subst hLc
  obtain ⟨s, r, s', r', e1, e2, er, hr⟩ := patterns_P (v1 := lv xv (i + 1)) (v2 := lv xv (i + 2)) h
  subst er
  refine l_aload C dL_285 rfl 2 rfl ?_
  refine l_arg C (kk := 1) (x1 := 3) (x2 := 0) h0 (by omega) (by decide) rfl rfl dL_286 dL_287 dL_288 dL_289 dL_290 ?_
  refine l_arg C (kk := 2) (x1 := 3) (x2 := 0) h0 (by omega) (by decide) rfl rfl dL_291 dL_292 dL_293 dL_294 dL_295 ?_
  refine l_callC C (st := []) [.inl (lv xv (i + 1)), .inl (lv xv (i + 2))] rfl (c_Co_patterns e1 (gOk_cons trivial (gOk_cons (lv_32 _ _) (gOk_cons (lv_32 _ _) (fun v hv => by cases hv)))) iC) ⟨⟨lwm_35, lwi_Co_patterns, lws_Co_patterns, lwz_6, lwc_Co_patterns⟩, by decide, by decide, (show (parseMethodDescriptor Y_Co_patterns.desc).map (fun d => d.parameters.length) = some 2 from by decide +kernel)⟩ (by decide) (Nat.le_of_ble_eq_true rfl) dL_296 (fun iC2 _ => ?_)
  refine l_aload C dL_299 rfl 1 rfl ?_
  refine l_arg C (kk := 1) (x1 := 3) (x2 := 0) h0 (by omega) (by decide) rfl rfl dL_300 dL_301 dL_302 dL_303 dL_304 ?_
  refine l_arg C (kk := 2) (x1 := 3) (x2 := 0) h0 (by omega) (by decide) rfl rfl dL_305 dL_306 dL_307 dL_308 dL_309 ?_
  refine l_callM C (st := [.int (Int32.ofInt _)]) [.inl (lv xv (i + 1)), .inl (lv xv (i + 2))] rfl (c_Mo_patterns e2 (gOk_cons trivial (gOk_cons (lv_32 _ _) (gOk_cons (lv_32 _ _) (fun v hv => by cases hv)))) iM) ⟨⟨lwm_38, lwi_Mo_patterns, lws_Mo_patterns, lwz_7, lwc_Mo_patterns⟩, by decide, by decide, (show (parseMethodDescriptor Y_Mo_patterns.desc).map (fun d => d.parameters.length) = some 2 from by decide +kernel)⟩ (by decide) (Nat.le_of_ble_eq_true rfl) dL_310 (fun iM2 _ => ?_)
  exact l_same C dL_313 (by decide) (k _ _ hr iC2 iM2)
theorem lcase_6 (C : lC X aM b L xv) (hLc : Lc = [(3, .int (Int32.ofInt i)), (2, .ref (aM 0)), (1, .ref (xd X 0)), (0, .ref b)]) (h0 : 0 ≤ i) (h1 : i + 5 ≤ (L : Int)) (h : RR B σ τ) (hB0 : 0 ≤ B) (hB : B + 2000000 ≤ 1073741824) (iC : gIn gctC σ) (iM : gIn gctM τ) (k : ∀ σ' τ', RR (B + 2000000) σ' τ' → gIn gctC σ' → gIn gctM τ' → LL X aM 922 Lc [] σ' τ') : LL X aM 318 Lc [] σ τ := by
  subst hLc
  obtain ⟨s, r, s', r', e1, e2, er, hr⟩ := lines_P (v1 := lv xv (i + 1)) (v2 := lv xv (i + 2)) h hB
  subst er
  refine l_aload C dL_318 rfl 2 rfl ?_
  refine l_arg C (kk := 1) (x1 := 3) (x2 := 0) h0 (by omega) (by decide) rfl rfl dL_319 dL_320 dL_321 dL_322 dL_323 ?_
  refine l_arg C (kk := 2) (x1 := 3) (x2 := 0) h0 (by omega) (by decide) rfl rfl dL_324 dL_325 dL_326 dL_327 dL_328 ?_
  refine l_callC C (st := []) [.inl (lv xv (i + 1)), .inl (lv xv (i + 2))] rfl (c_Co_lines e1 (gOk_cons trivial (gOk_cons (lv_32 _ _) (gOk_cons (lv_32 _ _) (fun v hv => by cases hv)))) iC) ⟨⟨lwm_39, lwi_Co_lines, lws_Co_lines, lwz_6, lwc_Co_lines⟩, by decide, by decide, (show (parseMethodDescriptor Y_Co_lines.desc).map (fun d => d.parameters.length) = some 2 from by decide +kernel)⟩ (by decide) (Nat.le_of_ble_eq_true rfl) dL_329 (fun iC2 _ => ?_)
  refine l_aload C dL_332 rfl 1 rfl ?_
  refine l_arg C (kk := 1) (x1 := 3) (x2 := 0) h0 (by omega) (by decide) rfl rfl dL_333 dL_334 dL_335 dL_336 dL_337 ?_
  refine l_arg C (kk := 2) (x1 := 3) (x2 := 0) h0 (by omega) (by decide) rfl rfl dL_338 dL_339 dL_340 dL_341 dL_342 ?_
  refine l_callM C (st := [.int (Int32.ofInt _)]) [.inl (lv xv (i + 1)), .inl (lv xv (i + 2))] rfl (c_Mo_lines e2 (gOk_cons trivial (gOk_cons (lv_32 _ _) (gOk_cons (lv_32 _ _) (fun v hv => by cases hv)))) iM) ⟨⟨lwm_42, lwi_Mo_lines, lws_Mo_lines, lwz_7, lwc_Mo_lines⟩, by decide, by decide, (show (parseMethodDescriptor Y_Mo_lines.desc).map (fun d => d.parameters.length) = some 2 from by decide +kernel)⟩ (by decide) (Nat.le_of_ble_eq_true rfl) dL_343 (fun iM2 _ => ?_)
  exact l_same C dL_346 (by decide) (k _ _ hr iC2 iM2)
theorem lcase_7 (C : lC X aM b L xv) (hLc : Lc = [(3, .int (Int32.ofInt i)), (2, .ref (aM 0)), (1, .ref (xd X 0)), (0, .ref b)]) (h0 : 0 ≤ i) (h1 : i + 5 ≤ (L : Int)) (h : RR B σ τ) (hB0 : 0 ≤ B) (hB : B + 2000000 ≤ 1073741824) (iC : gIn gctC σ) (iM : gIn gctM τ) (k : ∀ σ' τ', RR (B + 2000000) σ' τ' → gIn gctC σ' → gIn gctM τ' → LL X aM 922 Lc [] σ' τ') : LL X aM 351 Lc [] σ τ := by
  subst hLc
  obtain ⟨s, r, s', r', e1, e2, er, hr⟩ := rule_P (v1 := lv xv (i + 1)) (v2 := lv xv (i + 2)) h
  subst er
  refine l_aload C dL_351 rfl 2 rfl ?_
  refine l_arg C (kk := 1) (x1 := 3) (x2 := 0) h0 (by omega) (by decide) rfl rfl dL_352 dL_353 dL_354 dL_355 dL_356 ?_
  refine l_arg C (kk := 2) (x1 := 3) (x2 := 0) h0 (by omega) (by decide) rfl rfl dL_357 dL_358 dL_359 dL_360 dL_361 ?_
  refine l_callC C (st := []) [.inl (lv xv (i + 1)), .inl (lv xv (i + 2))] rfl (c_Co_rule e1 (gOk_cons trivial (gOk_cons (lv_32 _ _) (gOk_cons (lv_32 _ _) (fun v hv => by cases hv)))) iC) ⟨⟨lwm_43, lwi_Co_rule, lws_Co_rule, lwz_6, lwc_Co_rule⟩, by decide, by decide, (show (parseMethodDescriptor Y_Co_rule.desc).map (fun d => d.parameters.length) = some 2 from by decide +kernel)⟩ (by decide) (Nat.le_of_ble_eq_true rfl) dL_362 (fun iC2 _ => ?_)
  refine l_aload C dL_365 rfl 1 rfl ?_
  refine l_arg C (kk := 1) (x1 := 3) (x2 := 0) h0 (by omega) (by decide) rfl rfl dL_366 dL_367 dL_368 dL_369 dL_370 ?_
  refine l_arg C (kk := 2) (x1 := 3) (x2 := 0) h0 (by omega) (by decide) rfl rfl dL_371 dL_372 dL_373 dL_374 dL_375 ?_
  refine l_callM C (st := [.int (Int32.ofInt _)]) [.inl (lv xv (i + 1)), .inl (lv xv (i + 2))] rfl (c_Mo_rule e2 (gOk_cons trivial (gOk_cons (lv_32 _ _) (gOk_cons (lv_32 _ _) (fun v hv => by cases hv)))) iM) ⟨⟨lwm_46, lwi_Mo_rule, lws_Mo_rule, lwz_7, lwc_Mo_rule⟩, by decide, by decide, (show (parseMethodDescriptor Y_Mo_rule.desc).map (fun d => d.parameters.length) = some 2 from by decide +kernel)⟩ (by decide) (Nat.le_of_ble_eq_true rfl) dL_376 (fun iM2 _ => ?_)
  exact l_same C dL_379 (by decide) (k _ _ hr iC2 iM2)
theorem lcase_8 (C : lC X aM b L xv) (hLc : Lc = [(3, .int (Int32.ofInt i)), (2, .ref (aM 0)), (1, .ref (xd X 0)), (0, .ref b)]) (h0 : 0 ≤ i) (h1 : i + 5 ≤ (L : Int)) (h : RR B σ τ) (hB0 : 0 ≤ B) (hB : B + 2000000 ≤ 1073741824) (iC : gIn gctC σ) (iM : gIn gctM τ) (k : ∀ σ' τ', RR (B + 2000000) σ' τ' → gIn gctC σ' → gIn gctM τ' → LL X aM 922 Lc [] σ' τ') : LL X aM 384 Lc [] σ τ := by
  subst hLc
  obtain ⟨s, r, s', r', e1, e2, er, hr⟩ := line_P (v1 := lv xv (i + 1)) (v2 := lv xv (i + 2)) h
  subst er
  refine l_aload C dL_384 rfl 2 rfl ?_
  refine l_arg C (kk := 1) (x1 := 3) (x2 := 0) h0 (by omega) (by decide) rfl rfl dL_385 dL_386 dL_387 dL_388 dL_389 ?_
  refine l_arg C (kk := 2) (x1 := 3) (x2 := 0) h0 (by omega) (by decide) rfl rfl dL_390 dL_391 dL_392 dL_393 dL_394 ?_
  refine l_callC C (st := []) [.inl (lv xv (i + 1)), .inl (lv xv (i + 2))] rfl (c_Co_line e1 (gOk_cons trivial (gOk_cons (lv_32 _ _) (gOk_cons (lv_32 _ _) (fun v hv => by cases hv)))) iC) ⟨⟨lwm_47, lwi_Co_line, lws_Co_line, lwz_6, lwc_Co_line⟩, by decide, by decide, (show (parseMethodDescriptor Y_Co_line.desc).map (fun d => d.parameters.length) = some 2 from by decide +kernel)⟩ (by decide) (Nat.le_of_ble_eq_true rfl) dL_395 (fun iC2 _ => ?_)
  refine l_aload C dL_398 rfl 1 rfl ?_
  refine l_arg C (kk := 1) (x1 := 3) (x2 := 0) h0 (by omega) (by decide) rfl rfl dL_399 dL_400 dL_401 dL_402 dL_403 ?_
  refine l_arg C (kk := 2) (x1 := 3) (x2 := 0) h0 (by omega) (by decide) rfl rfl dL_404 dL_405 dL_406 dL_407 dL_408 ?_
  refine l_callM C (st := [.int (Int32.ofInt _)]) [.inl (lv xv (i + 1)), .inl (lv xv (i + 2))] rfl (c_Mo_line e2 (gOk_cons trivial (gOk_cons (lv_32 _ _) (gOk_cons (lv_32 _ _) (fun v hv => by cases hv)))) iM) ⟨⟨lwm_50, lwi_Mo_line, lws_Mo_line, lwz_7, lwc_Mo_line⟩, by decide, by decide, (show (parseMethodDescriptor Y_Mo_line.desc).map (fun d => d.parameters.length) = some 2 from by decide +kernel)⟩ (by decide) (Nat.le_of_ble_eq_true rfl) dL_409 (fun iM2 _ => ?_)
  exact l_same C dL_412 (by decide) (k _ _ hr iC2 iM2)
theorem lcase_9 (C : lC X aM b L xv) (hLc : Lc = [(3, .int (Int32.ofInt i)), (2, .ref (aM 0)), (1, .ref (xd X 0)), (0, .ref b)]) (h0 : 0 ≤ i) (h1 : i + 5 ≤ (L : Int)) (h : RR B σ τ) (hB0 : 0 ≤ B) (hB : B + 2000000 ≤ 1073741824) (iC : gIn gctC σ) (iM : gIn gctM τ) (k : ∀ σ' τ', RR (B + 2000000) σ' τ' → gIn gctC σ' → gIn gctM τ' → LL X aM 922 Lc [] σ' τ') : LL X aM 417 Lc [] σ τ := by
  subst hLc
  obtain ⟨s, r, s', r', e1, e2, er, hr⟩ := frames_P (v := lv xv (i + 1)) h hB
  subst er
  refine l_aload C dL_417 rfl 2 rfl ?_
  refine l_arg C (kk := 1) (x1 := 3) (x2 := 0) h0 (by omega) (by decide) rfl rfl dL_418 dL_419 dL_420 dL_421 dL_422 ?_
  refine l_callC C (st := []) [.inl (lv xv (i + 1))] rfl (c_Co_frames e1 (gOk_cons trivial (gOk_cons (lv_32 _ _) (fun v hv => by cases hv))) iC) ⟨⟨lwm_51, lwi_Co_frames, lws_Co_frames, lwz_6, lwc_Co_frames⟩, by decide, by decide, (show (parseMethodDescriptor Y_Co_frames.desc).map (fun d => d.parameters.length) = some 1 from by decide +kernel)⟩ (by decide) (Nat.le_of_ble_eq_true rfl) dL_423 (fun iC2 _ => ?_)
  refine l_aload C dL_426 rfl 1 rfl ?_
  refine l_arg C (kk := 1) (x1 := 3) (x2 := 0) h0 (by omega) (by decide) rfl rfl dL_427 dL_428 dL_429 dL_430 dL_431 ?_
  refine l_callM C (st := [.int (Int32.ofInt _)]) [.inl (lv xv (i + 1))] rfl (c_Mo_frames e2 (gOk_cons trivial (gOk_cons (lv_32 _ _) (fun v hv => by cases hv))) iM) ⟨⟨lwm_54, lwi_Mo_frames, lws_Mo_frames, lwz_7, lwc_Mo_frames⟩, by decide, by decide, (show (parseMethodDescriptor Y_Mo_frames.desc).map (fun d => d.parameters.length) = some 1 from by decide +kernel)⟩ (by decide) (Nat.le_of_ble_eq_true rfl) dL_432 (fun iM2 _ => ?_)
  exact l_same C dL_435 (by decide) (k _ _ hr iC2 iM2)
theorem lcase_10 (C : lC X aM b L xv) (hLc : Lc = [(3, .int (Int32.ofInt i)), (2, .ref (aM 0)), (1, .ref (xd X 0)), (0, .ref b)]) (h0 : 0 ≤ i) (h1 : i + 5 ≤ (L : Int)) (h : RR B σ τ) (hB0 : 0 ≤ B) (hB : B + 2000000 ≤ 1073741824) (iC : gIn gctC σ) (iM : gIn gctM τ) (k : ∀ σ' τ', RR (B + 2000000) σ' τ' → gIn gctC σ' → gIn gctM τ' → LL X aM 922 Lc [] σ' τ') : LL X aM 440 Lc [] σ τ := by
  subst hLc
  obtain ⟨s, r, s', r', e1, e2, er, hr⟩ := page_P (v1 := lv xv (i + 1)) (v2 := lv xv (i + 2)) h
  subst er
  refine l_aload C dL_440 rfl 2 rfl ?_
  refine l_arg C (kk := 1) (x1 := 3) (x2 := 0) h0 (by omega) (by decide) rfl rfl dL_441 dL_442 dL_443 dL_444 dL_445 ?_
  refine l_arg C (kk := 2) (x1 := 3) (x2 := 0) h0 (by omega) (by decide) rfl rfl dL_446 dL_447 dL_448 dL_449 dL_450 ?_
  refine l_callC C (st := []) [.inl (lv xv (i + 1)), .inl (lv xv (i + 2))] rfl (c_Co_page e1 (gOk_cons trivial (gOk_cons (lv_32 _ _) (gOk_cons (lv_32 _ _) (fun v hv => by cases hv)))) iC) ⟨⟨lwm_55, lwi_Co_page, lws_Co_page, lwz_6, lwc_Co_page⟩, by decide, by decide, (show (parseMethodDescriptor Y_Co_page.desc).map (fun d => d.parameters.length) = some 2 from by decide +kernel)⟩ (by decide) (Nat.le_of_ble_eq_true rfl) dL_451 (fun iC2 _ => ?_)
  refine l_aload C dL_454 rfl 1 rfl ?_
  refine l_arg C (kk := 1) (x1 := 3) (x2 := 0) h0 (by omega) (by decide) rfl rfl dL_455 dL_456 dL_457 dL_458 dL_459 ?_
  refine l_arg C (kk := 2) (x1 := 3) (x2 := 0) h0 (by omega) (by decide) rfl rfl dL_460 dL_461 dL_462 dL_463 dL_464 ?_
  refine l_callM C (st := [.int (Int32.ofInt _)]) [.inl (lv xv (i + 1)), .inl (lv xv (i + 2))] rfl (c_Mo_page e2 (gOk_cons trivial (gOk_cons (lv_32 _ _) (gOk_cons (lv_32 _ _) (fun v hv => by cases hv)))) iM) ⟨⟨lwm_58, lwi_Mo_page, lws_Mo_page, lwz_7, lwc_Mo_page⟩, by decide, by decide, (show (parseMethodDescriptor Y_Mo_page.desc).map (fun d => d.parameters.length) = some 2 from by decide +kernel)⟩ (by decide) (Nat.le_of_ble_eq_true rfl) dL_465 (fun iM2 _ => ?_)
  exact l_same C dL_468 (by decide) (k _ _ hr iC2 iM2)
theorem lcase_11 (C : lC X aM b L xv) (hLc : Lc = [(3, .int (Int32.ofInt i)), (2, .ref (aM 0)), (1, .ref (xd X 0)), (0, .ref b)]) (h0 : 0 ≤ i) (h1 : i + 5 ≤ (L : Int)) (h : RR B σ τ) (hB0 : 0 ≤ B) (hB : B + 2000000 ≤ 1073741824) (iC : gIn gctC σ) (iM : gIn gctM τ) (k : ∀ σ' τ', RR (B + 2000000) σ' τ' → gIn gctC σ' → gIn gctM τ' → LL X aM 922 Lc [] σ' τ') : LL X aM 473 Lc [] σ τ := by
  subst hLc
  obtain ⟨s, r, s', r', e1, e2, er, hr⟩ := load_P (v1 := lv xv (i + 1)) (v2 := lv xv (i + 2)) h hB
  subst er
  refine l_aload C dL_473 rfl 2 rfl ?_
  refine l_arg C (kk := 1) (x1 := 3) (x2 := 0) h0 (by omega) (by decide) rfl rfl dL_474 dL_475 dL_476 dL_477 dL_478 ?_
  refine l_arg C (kk := 2) (x1 := 3) (x2 := 0) h0 (by omega) (by decide) rfl rfl dL_479 dL_480 dL_481 dL_482 dL_483 ?_
  refine l_callC C (st := []) [.inl (lv xv (i + 1)), .inl (lv xv (i + 2))] rfl (c_Co_load e1 (gOk_cons trivial (gOk_cons (lv_32 _ _) (gOk_cons (lv_32 _ _) (fun v hv => by cases hv)))) iC) ⟨⟨lwm_59, lwi_Co_load, lws_Co_load, lwz_6, lwc_Co_load⟩, by decide, by decide, (show (parseMethodDescriptor Y_Co_load.desc).map (fun d => d.parameters.length) = some 2 from by decide +kernel)⟩ (by decide) (Nat.le_of_ble_eq_true rfl) dL_484 (fun iC2 _ => ?_)
  refine l_aload C dL_487 rfl 1 rfl ?_
  refine l_arg C (kk := 1) (x1 := 3) (x2 := 0) h0 (by omega) (by decide) rfl rfl dL_488 dL_489 dL_490 dL_491 dL_492 ?_
  refine l_arg C (kk := 2) (x1 := 3) (x2 := 0) h0 (by omega) (by decide) rfl rfl dL_493 dL_494 dL_495 dL_496 dL_497 ?_
  refine l_callM C (st := [.int (Int32.ofInt _)]) [.inl (lv xv (i + 1)), .inl (lv xv (i + 2))] rfl (c_Mo_load e2 (gOk_cons trivial (gOk_cons (lv_32 _ _) (gOk_cons (lv_32 _ _) (fun v hv => by cases hv)))) iM) ⟨⟨lwm_62, lwi_Mo_load, lws_Mo_load, lwz_7, lwc_Mo_load⟩, by decide, by decide, (show (parseMethodDescriptor Y_Mo_load.desc).map (fun d => d.parameters.length) = some 2 from by decide +kernel)⟩ (by decide) (Nat.le_of_ble_eq_true rfl) dL_498 (fun iM2 _ => ?_)
  exact l_same C dL_501 (by decide) (k _ _ hr iC2 iM2)
theorem lcase_12 (C : lC X aM b L xv) (hLc : Lc = [(3, .int (Int32.ofInt i)), (2, .ref (aM 0)), (1, .ref (xd X 0)), (0, .ref b)]) (h0 : 0 ≤ i) (h1 : i + 5 ≤ (L : Int)) (h : RR B σ τ) (hB0 : 0 ≤ B) (hB : B + 2000000 ≤ 1073741824) (iC : gIn gctC σ) (iM : gIn gctM τ) (k : ∀ σ' τ', RR (B + 2000000) σ' τ' → gIn gctC σ' → gIn gctM τ' → LL X aM 922 Lc [] σ' τ') : LL X aM 506 Lc [] σ τ := by
  subst hLc
  obtain ⟨s, r, s', r', e1, e2, er, hr⟩ := save_P (v1 := lv xv (i + 1)) (v2 := lv xv (i + 2)) (v3 := lv xv (i + 3)) h hB
  subst er
  refine l_aload C dL_506 rfl 2 rfl ?_
  refine l_arg C (kk := 1) (x1 := 3) (x2 := 0) h0 (by omega) (by decide) rfl rfl dL_507 dL_508 dL_509 dL_510 dL_511 ?_
  refine l_arg C (kk := 2) (x1 := 3) (x2 := 0) h0 (by omega) (by decide) rfl rfl dL_512 dL_513 dL_514 dL_515 dL_516 ?_
  refine l_arg C (kk := 3) (x1 := 3) (x2 := 0) h0 (by omega) (by decide) rfl rfl dL_517 dL_518 dL_519 dL_520 dL_521 ?_
  refine l_callC C (st := []) [.inl (lv xv (i + 1)), .inl (lv xv (i + 2)), .inl (lv xv (i + 3))] rfl (c_Co_save e1 (gOk_cons trivial (gOk_cons (lv_32 _ _) (gOk_cons (lv_32 _ _) (gOk_cons (lv_32 _ _) (fun v hv => by cases hv))))) iC) ⟨⟨lwm_63, lwi_Co_save, lws_Co_save, lwz_6, lwc_Co_save⟩, by decide, by decide, (show (parseMethodDescriptor Y_Co_save.desc).map (fun d => d.parameters.length) = some 3 from by decide +kernel)⟩ (by decide) (Nat.le_of_ble_eq_true rfl) dL_522 (fun iC2 _ => ?_)
  refine l_aload C dL_525 rfl 1 rfl ?_
  refine l_arg C (kk := 1) (x1 := 3) (x2 := 0) h0 (by omega) (by decide) rfl rfl dL_526 dL_527 dL_528 dL_529 dL_530 ?_
  refine l_arg C (kk := 2) (x1 := 3) (x2 := 0) h0 (by omega) (by decide) rfl rfl dL_531 dL_532 dL_533 dL_534 dL_535 ?_
  refine l_arg C (kk := 3) (x1 := 3) (x2 := 0) h0 (by omega) (by decide) rfl rfl dL_536 dL_537 dL_538 dL_539 dL_540 ?_
  refine l_callM C (st := [.int (Int32.ofInt _)]) [.inl (lv xv (i + 1)), .inl (lv xv (i + 2)), .inl (lv xv (i + 3))] rfl (c_Mo_save e2 (gOk_cons trivial (gOk_cons (lv_32 _ _) (gOk_cons (lv_32 _ _) (gOk_cons (lv_32 _ _) (fun v hv => by cases hv))))) iM) ⟨⟨lwm_67, lwi_Mo_save, lws_Mo_save, lwz_7, lwc_Mo_save⟩, by decide, by decide, (show (parseMethodDescriptor Y_Mo_save.desc).map (fun d => d.parameters.length) = some 3 from by decide +kernel)⟩ (by decide) (Nat.le_of_ble_eq_true rfl) dL_541 (fun iM2 _ => ?_)
  exact l_same C dL_544 (by decide) (k _ _ hr iC2 iM2)
theorem lcase_13 (C : lC X aM b L xv) (hLc : Lc = [(3, .int (Int32.ofInt i)), (2, .ref (aM 0)), (1, .ref (xd X 0)), (0, .ref b)]) (h0 : 0 ≤ i) (h1 : i + 5 ≤ (L : Int)) (h : RR B σ τ) (hB0 : 0 ≤ B) (hB : B + 2000000 ≤ 1073741824) (iC : gIn gctC σ) (iM : gIn gctM τ) (k : ∀ σ' τ', RR (B + 2000000) σ' τ' → gIn gctC σ' → gIn gctM τ' → LL X aM 922 Lc [] σ' τ') : LL X aM 549 Lc [] σ τ := by
  subst hLc
  obtain ⟨s, r, s', r', e1, e2, er, hr⟩ := fewest_P (v1 := lv xv (i + 1)) h hB
  subst er
  refine l_aload C dL_549 rfl 2 rfl ?_
  refine l_arg C (kk := 1) (x1 := 3) (x2 := 0) h0 (by omega) (by decide) rfl rfl dL_550 dL_551 dL_552 dL_553 dL_554 ?_
  refine l_callC C (st := []) [.inl (lv xv (i + 1))] rfl (c_Co_fewest e1 (gOk_cons trivial (gOk_cons (lv_32 _ _) (fun v hv => by cases hv))) iC) ⟨⟨lwm_68, lwi_Co_fewest, lws_Co_fewest, lwz_6, lwc_Co_fewest⟩, by decide, by decide, (show (parseMethodDescriptor Y_Co_fewest.desc).map (fun d => d.parameters.length) = some 1 from by decide +kernel)⟩ (by decide) (Nat.le_of_ble_eq_true rfl) dL_555 (fun iC2 _ => ?_)
  refine l_aload C dL_558 rfl 1 rfl ?_
  refine l_arg C (kk := 1) (x1 := 3) (x2 := 0) h0 (by omega) (by decide) rfl rfl dL_559 dL_560 dL_561 dL_562 dL_563 ?_
  refine l_callM C (st := [.int (Int32.ofInt _)]) [.inl (lv xv (i + 1))] rfl (c_Mo_fewest e2 (gOk_cons trivial (gOk_cons (lv_32 _ _) (fun v hv => by cases hv))) iM) ⟨⟨lwm_71, lwi_Mo_fewest, lws_Mo_fewest, lwz_7, lwc_Mo_fewest⟩, by decide, by decide, (show (parseMethodDescriptor Y_Mo_fewest.desc).map (fun d => d.parameters.length) = some 1 from by decide +kernel)⟩ (by decide) (Nat.le_of_ble_eq_true rfl) dL_564 (fun iM2 _ => ?_)
  exact l_same C dL_567 (by decide) (k _ _ hr iC2 iM2)
theorem lcase_14 (C : lC X aM b L xv) (hLc : Lc = [(3, .int (Int32.ofInt i)), (2, .ref (aM 0)), (1, .ref (xd X 0)), (0, .ref b)]) (h0 : 0 ≤ i) (h1 : i + 5 ≤ (L : Int)) (h : RR B σ τ) (hB0 : 0 ≤ B) (hB : B + 2000000 ≤ 1073741824) (iC : gIn gctC σ) (iM : gIn gctM τ) (k : ∀ σ' τ', RR (B + 2000000) σ' τ' → gIn gctC σ' → gIn gctM τ' → LL X aM 922 Lc [] σ' τ') : LL X aM 572 Lc [] σ τ := by
  subst hLc
  obtain ⟨s, r, s', r', e1, e2, er, hr⟩ := make_P (v1 := lv xv (i + 1)) (v2 := lv xv (i + 2)) (v3 := bz (lv xv (i + 3))) h (bz_01 _) hB
  subst er
  refine l_aload C dL_572 rfl 2 rfl ?_
  refine l_arg C (kk := 1) (x1 := 3) (x2 := 0) h0 (by omega) (by decide) rfl rfl dL_573 dL_574 dL_575 dL_576 dL_577 ?_
  refine l_arg C (kk := 2) (x1 := 3) (x2 := 0) h0 (by omega) (by decide) rfl rfl dL_578 dL_579 dL_580 dL_581 dL_582 ?_
  refine l_arg C (kk := 3) (x1 := 3) (x2 := 0) h0 (by omega) (by decide) rfl rfl dL_583 dL_584 dL_585 dL_586 dL_587 ?_
  refine l_bz C (t1 := 595) (t2 := 596) (lv_32 _ _) dL_588 dL_591 dL_592 dL_595 (by decide) (by decide) rfl ?_
  refine l_callC C (st := []) [.inl (lv xv (i + 1)), .inl (lv xv (i + 2)), .inl (bz (lv xv (i + 3)))] rfl (c_Co_make e1 (gOk_cons trivial (gOk_cons (lv_32 _ _) (gOk_cons (lv_32 _ _) (gOk_cons (g32_1 (by rcases bz_01 (lv xv (i + 3)) with z | z <;> omega)) (fun v hv => by cases hv))))) iC) ⟨⟨lwm_72, lwi_Co_make, lws_Co_make, lwz_6, lwc_Co_make⟩, by decide, by decide, (show (parseMethodDescriptor Y_Co_make.desc).map (fun d => d.parameters.length) = some 3 from by decide +kernel)⟩ (by decide) (Nat.le_of_ble_eq_true rfl) dL_596 (fun iC2 _ => ?_)
  refine l_aload C dL_599 rfl 1 rfl ?_
  refine l_arg C (kk := 1) (x1 := 3) (x2 := 0) h0 (by omega) (by decide) rfl rfl dL_600 dL_601 dL_602 dL_603 dL_604 ?_
  refine l_arg C (kk := 2) (x1 := 3) (x2 := 0) h0 (by omega) (by decide) rfl rfl dL_605 dL_606 dL_607 dL_608 dL_609 ?_
  refine l_arg C (kk := 3) (x1 := 3) (x2 := 0) h0 (by omega) (by decide) rfl rfl dL_610 dL_611 dL_612 dL_613 dL_614 ?_
  refine l_bz C (t1 := 622) (t2 := 623) (lv_32 _ _) dL_615 dL_618 dL_619 dL_622 (by decide) (by decide) rfl ?_
  refine l_callM C (st := [.int (Int32.ofInt _)]) [.inl (lv xv (i + 1)), .inl (lv xv (i + 2)), .inl (bz (lv xv (i + 3)))] rfl (c_Mo_make e2 (gOk_cons trivial (gOk_cons (lv_32 _ _) (gOk_cons (lv_32 _ _) (gOk_cons (g32_1 (by rcases bz_01 (lv xv (i + 3)) with z | z <;> omega)) (fun v hv => by cases hv))))) iM) ⟨⟨lwm_76, lwi_Mo_make, lws_Mo_make, lwz_7, lwc_Mo_make⟩, by decide, by decide, (show (parseMethodDescriptor Y_Mo_make.desc).map (fun d => d.parameters.length) = some 3 from by decide +kernel)⟩ (by decide) (Nat.le_of_ble_eq_true rfl) dL_623 (fun iM2 _ => ?_)
  exact l_same C dL_626 (by decide) (k _ _ hr iC2 iM2)
theorem lcase_15 (C : lC X aM b L xv) (hLc : Lc = [(3, .int (Int32.ofInt i)), (2, .ref (aM 0)), (1, .ref (xd X 0)), (0, .ref b)]) (h0 : 0 ≤ i) (h1 : i + 5 ≤ (L : Int)) (h : RR B σ τ) (hB0 : 0 ≤ B) (hB : B + 2000000 ≤ 1073741824) (iC : gIn gctC σ) (iM : gIn gctM τ) (k : ∀ σ' τ', RR (B + 2000000) σ' τ' → gIn gctC σ' → gIn gctM τ' → LL X aM 922 Lc [] σ' τ') : LL X aM 631 Lc [] σ τ := by
  subst hLc
  obtain ⟨s, r, s', r', e1, e2, er, hr⟩ := get_P (v1 := lv xv (i + 1)) (v2 := lv xv (i + 2)) (v3 := lv xv (i + 3)) h hB
  subst er
  refine l_aload C dL_631 rfl 2 rfl ?_
  refine l_arg C (kk := 1) (x1 := 3) (x2 := 0) h0 (by omega) (by decide) rfl rfl dL_632 dL_633 dL_634 dL_635 dL_636 ?_
  refine l_arg C (kk := 2) (x1 := 3) (x2 := 0) h0 (by omega) (by decide) rfl rfl dL_637 dL_638 dL_639 dL_640 dL_641 ?_
  refine l_arg C (kk := 3) (x1 := 3) (x2 := 0) h0 (by omega) (by decide) rfl rfl dL_642 dL_643 dL_644 dL_645 dL_646 ?_
  refine l_callC C (st := []) [.inl (lv xv (i + 1)), .inl (lv xv (i + 2)), .inl (lv xv (i + 3))] rfl (c_Co_get e1 (gOk_cons trivial (gOk_cons (lv_32 _ _) (gOk_cons (lv_32 _ _) (gOk_cons (lv_32 _ _) (fun v hv => by cases hv))))) iC) ⟨⟨lwm_77, lwi_Co_get, lws_Co_get, lwz_6, lwc_Co_get⟩, by decide, by decide, (show (parseMethodDescriptor Y_Co_get.desc).map (fun d => d.parameters.length) = some 3 from by decide +kernel)⟩ (by decide) (Nat.le_of_ble_eq_true rfl) dL_647 (fun iC2 _ => ?_)
  refine l_aload C dL_650 rfl 1 rfl ?_
  refine l_arg C (kk := 1) (x1 := 3) (x2 := 0) h0 (by omega) (by decide) rfl rfl dL_651 dL_652 dL_653 dL_654 dL_655 ?_
  refine l_arg C (kk := 2) (x1 := 3) (x2 := 0) h0 (by omega) (by decide) rfl rfl dL_656 dL_657 dL_658 dL_659 dL_660 ?_
  refine l_arg C (kk := 3) (x1 := 3) (x2 := 0) h0 (by omega) (by decide) rfl rfl dL_661 dL_662 dL_663 dL_664 dL_665 ?_
  refine l_callM C (st := [.int (Int32.ofInt _)]) [.inl (lv xv (i + 1)), .inl (lv xv (i + 2)), .inl (lv xv (i + 3))] rfl (c_Mo_get e2 (gOk_cons trivial (gOk_cons (lv_32 _ _) (gOk_cons (lv_32 _ _) (gOk_cons (lv_32 _ _) (fun v hv => by cases hv))))) iM) ⟨⟨lwm_80, lwi_Mo_get, lws_Mo_get, lwz_7, lwc_Mo_get⟩, by decide, by decide, (show (parseMethodDescriptor Y_Mo_get.desc).map (fun d => d.parameters.length) = some 3 from by decide +kernel)⟩ (by decide) (Nat.le_of_ble_eq_true rfl) dL_666 (fun iM2 _ => ?_)
  exact l_same C dL_669 (by decide) (k _ _ hr iC2 iM2)
theorem lcase_16 (C : lC X aM b L xv) (hLc : Lc = [(3, .int (Int32.ofInt i)), (2, .ref (aM 0)), (1, .ref (xd X 0)), (0, .ref b)]) (h0 : 0 ≤ i) (h1 : i + 5 ≤ (L : Int)) (h : RR B σ τ) (hB0 : 0 ≤ B) (hB : B + 2000000 ≤ 1073741824) (iC : gIn gctC σ) (iM : gIn gctM τ) (k : ∀ σ' τ', RR (B + 2000000) σ' τ' → gIn gctC σ' → gIn gctM τ' → LL X aM 922 Lc [] σ' τ') : LL X aM 674 Lc [] σ τ := by
  subst hLc
  obtain ⟨s, r, s', r', e1, e2, er, hr⟩ := put_P (v1 := lv xv (i + 1)) (v2 := lv xv (i + 2)) (v3 := lv xv (i + 3)) (v4 := lv xv (i + 4)) h hB
  subst er
  refine l_aload C dL_674 rfl 2 rfl ?_
  refine l_arg C (kk := 1) (x1 := 3) (x2 := 0) h0 (by omega) (by decide) rfl rfl dL_675 dL_676 dL_677 dL_678 dL_679 ?_
  refine l_arg C (kk := 2) (x1 := 3) (x2 := 0) h0 (by omega) (by decide) rfl rfl dL_680 dL_681 dL_682 dL_683 dL_684 ?_
  refine l_arg C (kk := 3) (x1 := 3) (x2 := 0) h0 (by omega) (by decide) rfl rfl dL_685 dL_686 dL_687 dL_688 dL_689 ?_
  refine l_arg C (kk := 4) (x1 := 3) (x2 := 0) h0 (by omega) (by decide) rfl rfl dL_690 dL_691 dL_692 dL_693 dL_694 ?_
  refine l_callC C (st := []) [.inl (lv xv (i + 1)), .inl (lv xv (i + 2)), .inl (lv xv (i + 3)), .inl (lv xv (i + 4))] rfl (c_Co_put e1 (gOk_cons trivial (gOk_cons (lv_32 _ _) (gOk_cons (lv_32 _ _) (gOk_cons (lv_32 _ _) (gOk_cons (lv_32 _ _) (fun v hv => by cases hv)))))) iC) ⟨⟨lwm_81, lwi_Co_put, lws_Co_put, lwz_6, lwc_Co_put⟩, by decide, by decide, (show (parseMethodDescriptor Y_Co_put.desc).map (fun d => d.parameters.length) = some 4 from by decide +kernel)⟩ (by decide) (Nat.le_of_ble_eq_true rfl) dL_695 (fun iC2 _ => ?_)
  refine l_aload C dL_698 rfl 1 rfl ?_
  refine l_arg C (kk := 1) (x1 := 3) (x2 := 0) h0 (by omega) (by decide) rfl rfl dL_699 dL_700 dL_701 dL_702 dL_703 ?_
  refine l_arg C (kk := 2) (x1 := 3) (x2 := 0) h0 (by omega) (by decide) rfl rfl dL_704 dL_705 dL_706 dL_707 dL_708 ?_
  refine l_arg C (kk := 3) (x1 := 3) (x2 := 0) h0 (by omega) (by decide) rfl rfl dL_709 dL_710 dL_711 dL_712 dL_713 ?_
  refine l_arg C (kk := 4) (x1 := 3) (x2 := 0) h0 (by omega) (by decide) rfl rfl dL_714 dL_715 dL_716 dL_717 dL_718 ?_
  refine l_callM C (st := [.int (Int32.ofInt _)]) [.inl (lv xv (i + 1)), .inl (lv xv (i + 2)), .inl (lv xv (i + 3)), .inl (lv xv (i + 4))] rfl (c_Mo_put e2 (gOk_cons trivial (gOk_cons (lv_32 _ _) (gOk_cons (lv_32 _ _) (gOk_cons (lv_32 _ _) (gOk_cons (lv_32 _ _) (fun v hv => by cases hv)))))) iM) ⟨⟨lwm_85, lwi_Mo_put, lws_Mo_put, lwz_7, lwc_Mo_put⟩, by decide, by decide, (show (parseMethodDescriptor Y_Mo_put.desc).map (fun d => d.parameters.length) = some 4 from by decide +kernel)⟩ (by decide) (Nat.le_of_ble_eq_true rfl) dL_719 (fun iM2 _ => ?_)
  exact l_same C dL_722 (by decide) (k _ _ hr iC2 iM2)
theorem lcase_17 (C : lC X aM b L xv) (hLc : Lc = [(3, .int (Int32.ofInt i)), (2, .ref (aM 0)), (1, .ref (xd X 0)), (0, .ref b)]) (h0 : 0 ≤ i) (h1 : i + 5 ≤ (L : Int)) (h : RR B σ τ) (hB0 : 0 ≤ B) (hB : B + 2000000 ≤ 1073741824) (iC : gIn gctC σ) (iM : gIn gctM τ) (k : ∀ σ' τ', RR (B + 2000000) σ' τ' → gIn gctC σ' → gIn gctM τ' → LL X aM 922 Lc [] σ' τ') : LL X aM 727 Lc [] σ τ := by
  subst hLc
  obtain ⟨s, r, s', r', e1, e2, er, hr⟩ := hold_P (v1 := bz (lv xv (i + 1))) (v2 := lv xv (i + 2)) (v3 := lv xv (i + 3)) h
  subst er
  refine l_aload C dL_727 rfl 2 rfl ?_
  refine l_arg C (kk := 1) (x1 := 3) (x2 := 0) h0 (by omega) (by decide) rfl rfl dL_728 dL_729 dL_730 dL_731 dL_732 ?_
  refine l_bz C (t1 := 740) (t2 := 741) (lv_32 _ _) dL_733 dL_736 dL_737 dL_740 (by decide) (by decide) rfl ?_
  refine l_arg C (kk := 2) (x1 := 3) (x2 := 0) h0 (by omega) (by decide) rfl rfl dL_741 dL_742 dL_743 dL_744 dL_745 ?_
  refine l_arg C (kk := 3) (x1 := 3) (x2 := 0) h0 (by omega) (by decide) rfl rfl dL_746 dL_747 dL_748 dL_749 dL_750 ?_
  refine l_callC C (st := []) [.inl (bz (lv xv (i + 1))), .inl (lv xv (i + 2)), .inl (lv xv (i + 3))] rfl (c_Co_hold e1 (gOk_cons trivial (gOk_cons (g32_1 (by rcases bz_01 (lv xv (i + 1)) with z | z <;> omega)) (gOk_cons (lv_32 _ _) (gOk_cons (lv_32 _ _) (fun v hv => by cases hv))))) iC) ⟨⟨lwm_86, lwi_Co_hold, lws_Co_hold, lwz_6, lwc_Co_hold⟩, by decide, by decide, (show (parseMethodDescriptor Y_Co_hold.desc).map (fun d => d.parameters.length) = some 3 from by decide +kernel)⟩ (by decide) (Nat.le_of_ble_eq_true rfl) dL_751 (fun iC2 _ => ?_)
  refine l_aload C dL_754 rfl 1 rfl ?_
  refine l_arg C (kk := 1) (x1 := 3) (x2 := 0) h0 (by omega) (by decide) rfl rfl dL_755 dL_756 dL_757 dL_758 dL_759 ?_
  refine l_bz C (t1 := 767) (t2 := 768) (lv_32 _ _) dL_760 dL_763 dL_764 dL_767 (by decide) (by decide) rfl ?_
  refine l_arg C (kk := 2) (x1 := 3) (x2 := 0) h0 (by omega) (by decide) rfl rfl dL_768 dL_769 dL_770 dL_771 dL_772 ?_
  refine l_arg C (kk := 3) (x1 := 3) (x2 := 0) h0 (by omega) (by decide) rfl rfl dL_773 dL_774 dL_775 dL_776 dL_777 ?_
  refine l_callM C (st := [.int (Int32.ofInt _)]) [.inl (bz (lv xv (i + 1))), .inl (lv xv (i + 2)), .inl (lv xv (i + 3))] rfl (c_Mo_hold e2 (gOk_cons trivial (gOk_cons (g32_1 (by rcases bz_01 (lv xv (i + 1)) with z | z <;> omega)) (gOk_cons (lv_32 _ _) (gOk_cons (lv_32 _ _) (fun v hv => by cases hv))))) iM) ⟨⟨lwm_90, lwi_Mo_hold, lws_Mo_hold, lwz_7, lwc_Mo_hold⟩, by decide, by decide, (show (parseMethodDescriptor Y_Mo_hold.desc).map (fun d => d.parameters.length) = some 3 from by decide +kernel)⟩ (by decide) (Nat.le_of_ble_eq_true rfl) dL_778 (fun iM2 _ => ?_)
  exact l_same C dL_781 (by decide) (k _ _ hr iC2 iM2)
theorem lcase_18 (C : lC X aM b L xv) (hLc : Lc = [(3, .int (Int32.ofInt i)), (2, .ref (aM 0)), (1, .ref (xd X 0)), (0, .ref b)]) (h0 : 0 ≤ i) (h1 : i + 5 ≤ (L : Int)) (h : RR B σ τ) (hB0 : 0 ≤ B) (hB : B + 2000000 ≤ 1073741824) (iC : gIn gctC σ) (iM : gIn gctM τ) (k : ∀ σ' τ', RR (B + 2000000) σ' τ' → gIn gctC σ' → gIn gctM τ' → LL X aM 922 Lc [] σ' τ') : LL X aM 786 Lc [] σ τ := by
  subst hLc
  obtain ⟨s, r, s', r', e1, e2, er, hr⟩ := gather_P (v1 := lv xv (i + 1)) h hB
  subst er
  refine l_aload C dL_786 rfl 2 rfl ?_
  refine l_arg C (kk := 1) (x1 := 3) (x2 := 0) h0 (by omega) (by decide) rfl rfl dL_787 dL_788 dL_789 dL_790 dL_791 ?_
  refine l_callC C (st := []) [.inl (lv xv (i + 1))] rfl (c_Co_gather e1 (gOk_cons trivial (gOk_cons (lv_32 _ _) (fun v hv => by cases hv))) iC) ⟨⟨lwm_91, lwi_Co_gather, lws_Co_gather, lwz_6, lwc_Co_gather⟩, by decide, by decide, (show (parseMethodDescriptor Y_Co_gather.desc).map (fun d => d.parameters.length) = some 1 from by decide +kernel)⟩ (by decide) (Nat.le_of_ble_eq_true rfl) dL_792 (fun iC2 _ => ?_)
  refine l_aload C dL_795 rfl 1 rfl ?_
  refine l_arg C (kk := 1) (x1 := 3) (x2 := 0) h0 (by omega) (by decide) rfl rfl dL_796 dL_797 dL_798 dL_799 dL_800 ?_
  refine l_callM C (st := [.int (Int32.ofInt _)]) [.inl (lv xv (i + 1))] rfl (c_Mo_gather e2 (gOk_cons trivial (gOk_cons (lv_32 _ _) (fun v hv => by cases hv))) iM) ⟨⟨lwm_94, lwi_Mo_gather, lws_Mo_gather, lwz_7, lwc_Mo_gather⟩, by decide, by decide, (show (parseMethodDescriptor Y_Mo_gather.desc).map (fun d => d.parameters.length) = some 1 from by decide +kernel)⟩ (by decide) (Nat.le_of_ble_eq_true rfl) dL_801 (fun iM2 _ => ?_)
  exact l_same C dL_804 (by decide) (k _ _ hr iC2 iM2)
theorem lcase_19 (C : lC X aM b L xv) (hLc : Lc = [(3, .int (Int32.ofInt i)), (2, .ref (aM 0)), (1, .ref (xd X 0)), (0, .ref b)]) (h0 : 0 ≤ i) (h1 : i + 5 ≤ (L : Int)) (h : RR B σ τ) (hB0 : 0 ≤ B) (hB : B + 2000000 ≤ 1073741824) (iC : gIn gctC σ) (iM : gIn gctM τ) (k : ∀ σ' τ', RR (B + 2000000) σ' τ' → gIn gctC σ' → gIn gctM τ' → LL X aM 922 Lc [] σ' τ') : LL X aM 809 Lc [] σ τ := by
  subst hLc
  obtain ⟨s, r, s', r', e1, e2, er, hr⟩ := about_P (v1 := lv xv (i + 1)) (v2 := lv xv (i + 2)) h hB
  subst er
  refine l_aload C dL_809 rfl 2 rfl ?_
  refine l_arg C (kk := 1) (x1 := 3) (x2 := 0) h0 (by omega) (by decide) rfl rfl dL_810 dL_811 dL_812 dL_813 dL_814 ?_
  refine l_arg C (kk := 2) (x1 := 3) (x2 := 0) h0 (by omega) (by decide) rfl rfl dL_815 dL_816 dL_817 dL_818 dL_819 ?_
  refine l_callC C (st := []) [.inl (lv xv (i + 1)), .inl (lv xv (i + 2))] rfl (c_Co_about e1 (gOk_cons trivial (gOk_cons (lv_32 _ _) (gOk_cons (lv_32 _ _) (fun v hv => by cases hv)))) iC) ⟨⟨lwm_95, lwi_Co_about, lws_Co_about, lwz_6, lwc_Co_about⟩, by decide, by decide, (show (parseMethodDescriptor Y_Co_about.desc).map (fun d => d.parameters.length) = some 2 from by decide +kernel)⟩ (by decide) (Nat.le_of_ble_eq_true rfl) dL_820 (fun iC2 _ => ?_)
  refine l_aload C dL_823 rfl 1 rfl ?_
  refine l_arg C (kk := 1) (x1 := 3) (x2 := 0) h0 (by omega) (by decide) rfl rfl dL_824 dL_825 dL_826 dL_827 dL_828 ?_
  refine l_arg C (kk := 2) (x1 := 3) (x2 := 0) h0 (by omega) (by decide) rfl rfl dL_829 dL_830 dL_831 dL_832 dL_833 ?_
  refine l_callM C (st := [.int (Int32.ofInt _)]) [.inl (lv xv (i + 1)), .inl (lv xv (i + 2))] rfl (c_Mo_about e2 (gOk_cons trivial (gOk_cons (lv_32 _ _) (gOk_cons (lv_32 _ _) (fun v hv => by cases hv)))) iM) ⟨⟨lwm_98, lwi_Mo_about, lws_Mo_about, lwz_7, lwc_Mo_about⟩, by decide, by decide, (show (parseMethodDescriptor Y_Mo_about.desc).map (fun d => d.parameters.length) = some 2 from by decide +kernel)⟩ (by decide) (Nat.le_of_ble_eq_true rfl) dL_834 (fun iM2 _ => ?_)
  exact l_same C dL_837 (by decide) (k _ _ hr iC2 iM2)
theorem lcase_20 (C : lC X aM b L xv) (hLc : Lc = [(3, .int (Int32.ofInt i)), (2, .ref (aM 0)), (1, .ref (xd X 0)), (0, .ref b)]) (h0 : 0 ≤ i) (h1 : i + 5 ≤ (L : Int)) (h : RR B σ τ) (hB0 : 0 ≤ B) (hB : B + 2000000 ≤ 1073741824) (iC : gIn gctC σ) (iM : gIn gctM τ) (k : ∀ σ' τ', RR (B + 2000000) σ' τ' → gIn gctC σ' → gIn gctM τ' → LL X aM 922 Lc [] σ' τ') : LL X aM 842 Lc [] σ τ := by
  subst hLc
  obtain ⟨s, r, s', r', e1, e2, er, hr⟩ := room_P (v1 := lv xv (i + 1)) (v2 := lv xv (i + 2)) h
  subst er
  refine l_aload C dL_842 rfl 2 rfl ?_
  refine l_arg C (kk := 1) (x1 := 3) (x2 := 0) h0 (by omega) (by decide) rfl rfl dL_843 dL_844 dL_845 dL_846 dL_847 ?_
  refine l_arg C (kk := 2) (x1 := 3) (x2 := 0) h0 (by omega) (by decide) rfl rfl dL_848 dL_849 dL_850 dL_851 dL_852 ?_
  refine l_callC C (st := []) [.inl (lv xv (i + 1)), .inl (lv xv (i + 2))] rfl (c_Co_room e1 (gOk_cons trivial (gOk_cons (lv_32 _ _) (gOk_cons (lv_32 _ _) (fun v hv => by cases hv)))) iC) ⟨⟨lwm_99, lwi_Co_room, lws_Co_room, lwz_6, lwc_Co_room⟩, by decide, by decide, (show (parseMethodDescriptor Y_Co_room.desc).map (fun d => d.parameters.length) = some 2 from by decide +kernel)⟩ (by decide) (Nat.le_of_ble_eq_true rfl) dL_853 (fun iC2 _ => ?_)
  refine l_aload C dL_856 rfl 1 rfl ?_
  refine l_arg C (kk := 1) (x1 := 3) (x2 := 0) h0 (by omega) (by decide) rfl rfl dL_857 dL_858 dL_859 dL_860 dL_861 ?_
  refine l_arg C (kk := 2) (x1 := 3) (x2 := 0) h0 (by omega) (by decide) rfl rfl dL_862 dL_863 dL_864 dL_865 dL_866 ?_
  refine l_callM C (st := [.int (Int32.ofInt _)]) [.inl (lv xv (i + 1)), .inl (lv xv (i + 2))] rfl (c_Mo_room e2 (gOk_cons trivial (gOk_cons (lv_32 _ _) (gOk_cons (lv_32 _ _) (fun v hv => by cases hv)))) iM) ⟨⟨lwm_102, lwi_Mo_room, lws_Mo_room, lwz_7, lwc_Mo_room⟩, by decide, by decide, (show (parseMethodDescriptor Y_Mo_room.desc).map (fun d => d.parameters.length) = some 2 from by decide +kernel)⟩ (by decide) (Nat.le_of_ble_eq_true rfl) dL_867 (fun iM2 _ => ?_)
  exact l_same C dL_870 (by decide) (k _ _ hr iC2 iM2)
theorem lcase_21 (C : lC X aM b L xv) (hLc : Lc = [(3, .int (Int32.ofInt i)), (2, .ref (aM 0)), (1, .ref (xd X 0)), (0, .ref b)]) (h0 : 0 ≤ i) (h1 : i + 5 ≤ (L : Int)) (h : RR B σ τ) (hB0 : 0 ≤ B) (hB : B + 2000000 ≤ 1073741824) (iC : gIn gctC σ) (iM : gIn gctM τ) (k : ∀ σ' τ', RR (B + 2000000) σ' τ' → gIn gctC σ' → gIn gctM τ' → LL X aM 922 Lc [] σ' τ') : LL X aM 875 Lc [] σ τ := by
  subst hLc
  obtain ⟨s, r, s', r', e1, e2, er, hr⟩ := blame_P (v1 := lv xv (i + 1)) h
  subst er
  refine l_aload C dL_875 rfl 2 rfl ?_
  refine l_arg C (kk := 1) (x1 := 3) (x2 := 0) h0 (by omega) (by decide) rfl rfl dL_876 dL_877 dL_878 dL_879 dL_880 ?_
  refine l_callCl C (st := []) [.inl (lv xv (i + 1))] rfl (c_Co_blame e1 (gOk_cons trivial (gOk_cons (lv_32 _ _) (fun v hv => by cases hv))) iC) ⟨⟨lwm_103, lwi_Co_blame, lws_Co_blame, lwz_6, lwc_Co_blame⟩, by decide, by decide, (show (parseMethodDescriptor Y_Co_blame.desc).map (fun d => d.parameters.length) = some 1 from by decide +kernel)⟩ (by decide) (Nat.le_of_ble_eq_true rfl) dL_881 (fun iC2 => ?_)
  refine l_aload C dL_884 rfl 1 rfl ?_
  refine l_arg C (kk := 1) (x1 := 3) (x2 := 0) h0 (by omega) (by decide) rfl rfl dL_885 dL_886 dL_887 dL_888 dL_889 ?_
  refine l_callMl C (st := [.long (Int64.ofInt _)]) [.inl (lv xv (i + 1))] rfl (c_Mo_blame e2 (gOk_cons trivial (gOk_cons (lv_32 _ _) (fun v hv => by cases hv))) iM) ⟨⟨lwm_107, lwi_Mo_blame, lws_Mo_blame, lwz_7, lwc_Mo_blame⟩, by decide, by decide, (show (parseMethodDescriptor Y_Mo_blame.desc).map (fun d => d.parameters.length) = some 1 from by decide +kernel)⟩ (by decide) (Nat.le_of_ble_eq_true rfl) dL_890 (fun iM2 => ?_)
  exact l_samel C dL_893 dL_894 (by decide) (k _ _ hr iC2 iM2)
theorem lcase_22 (C : lC X aM b L xv) (hLc : Lc = [(3, .int (Int32.ofInt i)), (2, .ref (aM 0)), (1, .ref (xd X 0)), (0, .ref b)]) (h0 : 0 ≤ i) (h1 : i + 5 ≤ (L : Int)) (h : RR B σ τ) (hB0 : 0 ≤ B) (hB : B + 2000000 ≤ 1073741824) (iC : gIn gctC σ) (iM : gIn gctM τ) (k : ∀ σ' τ', RR (B + 2000000) σ' τ' → gIn gctC σ' → gIn gctM τ' → LL X aM 922 Lc [] σ' τ') : LL X aM 899 Lc [] σ τ := by
  subst hLc
  obtain ⟨s, r, s', r', e1, e2, er, hr⟩ := count_P (v1 := lv xv (i + 1)) h hB
  subst er
  refine l_aload C dL_899 rfl 2 rfl ?_
  refine l_arg C (kk := 1) (x1 := 3) (x2 := 0) h0 (by omega) (by decide) rfl rfl dL_900 dL_901 dL_902 dL_903 dL_904 ?_
  refine l_callC C (st := []) [.inl (lv xv (i + 1))] rfl (c_Co_count e1 (gOk_cons trivial (gOk_cons (lv_32 _ _) (fun v hv => by cases hv))) iC) ⟨⟨lwm_108, lwi_Co_count, lws_Co_count, lwz_6, lwc_Co_count⟩, by decide, by decide, (show (parseMethodDescriptor Y_Co_count.desc).map (fun d => d.parameters.length) = some 1 from by decide +kernel)⟩ (by decide) (Nat.le_of_ble_eq_true rfl) dL_905 (fun iC2 _ => ?_)
  refine l_aload C dL_908 rfl 1 rfl ?_
  refine l_arg C (kk := 1) (x1 := 3) (x2 := 0) h0 (by omega) (by decide) rfl rfl dL_909 dL_910 dL_911 dL_912 dL_913 ?_
  refine l_callM C (st := [.int (Int32.ofInt _)]) [.inl (lv xv (i + 1))] rfl (c_Mo_count e2 (gOk_cons trivial (gOk_cons (lv_32 _ _) (fun v hv => by cases hv))) iM) ⟨⟨lwm_111, lwi_Mo_count, lws_Mo_count, lwz_7, lwc_Mo_count⟩, by decide, by decide, (show (parseMethodDescriptor Y_Mo_count.desc).map (fun d => d.parameters.length) = some 1 from by decide +kernel)⟩ (by decide) (Nat.le_of_ble_eq_true rfl) dL_914 (fun iM2 _ => ?_)
  exact l_same C dL_917 (by decide) (k _ _ hr iC2 iM2)
end LCASE
