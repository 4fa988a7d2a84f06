/-! The law's cases. -/
section LAWCASES
variable {p : Program} {l : Launch} {e : Env} {s : State} {m : MethodId} {below : List Frame} {meth : Method} {c : Code} {b L : Nat} {xs : Nat → Int32} {D : va_G} {cs : vCs} {ad : Nat → Nat → Nat} {w : Wd} {x3 : Int32}
theorem lw_case0 (E : LE p s m meth c b L xs D cs ad) (hR : Rel w) (h1 : vp_in (x3 + 1) L) (k : ∀ w', Rel w' → LV p l e s m below meth c b D cs ad 680 (lvL b ad x3) [] w') : LV p l e s m below meth c b D cs ad 140 (lvL b ad x3) [] w := by
  obtain ⟨r, w1, w2, e1, e2, hR2⟩ := op_letter hR (xs (x3 + 1).toNatClampNeg)
  refine l_aload E dL_law_140 rfl 1 rfl ?_
  refine l_arg E (j := 1) (v := 1) h1 dL_law_141 dL_law_142 dL_law_143 (by decide) dL_law_144 dL_law_145 ?_
  refine l_callV E my_X6_letter (wsG_in wG269) (g := 0) (ci := 5) (As := [.int (xs (x3 + 1).toNatClampNeg)]) (rest := []) (c_X6_letter l D cs ad e1) rfl (by decide +kernel) rfl ⟨by decide, by decide⟩ (Nat.le_of_ble_eq_true rfl) dL_law_146 ?_
  refine l_aload E dL_law_149 rfl 2 rfl ?_
  refine l_arg E (j := 1) (v := 1) h1 dL_law_150 dL_law_151 dL_law_152 (by decide) dL_law_153 dL_law_154 ?_
  refine l_callV E my_X7_letter (wsG_in wG810) (g := 12) (ci := 6) (As := [.int (xs (x3 + 1).toNatClampNeg)]) (rest := [.int r]) (c_X7_letter l D cs ad e2) rfl (by decide +kernel) rfl ⟨by decide, by decide⟩ (Nat.le_of_ble_eq_true rfl) dL_law_155 ?_
  exact l_eq E dL_law_158 (by decide) (k _ hR2)
theorem lw_case1 (E : LE p s m meth c b L xs D cs ad) (hR : Rel w) (k : ∀ w', Rel w' → LV p l e s m below meth c b D cs ad 680 (lvL b ad x3) [] w') : LV p l e s m below meth c b D cs ad 163 (lvL b ad x3) [] w := by
  obtain ⟨r, w1, w2, e1, e2, hR2⟩ := op_blank hR
  refine l_aload E dL_law_163 rfl 1 rfl ?_
  refine l_callV E my_X6_blank (wsG_in wG273) (g := 0) (ci := 5) (As := []) (rest := []) (c_X6_blank l D cs ad e1) rfl (by decide +kernel) rfl ⟨by decide, by decide⟩ (Nat.le_of_ble_eq_true rfl) dL_law_164 ?_
  refine l_aload E dL_law_167 rfl 2 rfl ?_
  refine l_callV E my_X7_blank (wsG_in wG817) (g := 12) (ci := 6) (As := []) (rest := [.int r]) (c_X7_blank l D cs ad e2) rfl (by decide +kernel) rfl ⟨by decide, by decide⟩ (Nat.le_of_ble_eq_true rfl) dL_law_168 ?_
  exact l_eq E dL_law_171 (by decide) (k _ hR2)
theorem lw_case2 (E : LE p s m meth c b L xs D cs ad) (hR : Rel w) (k : ∀ w', Rel w' → LV p l e s m below meth c b D cs ad 680 (lvL b ad x3) [] w') : LV p l e s m below meth c b D cs ad 176 (lvL b ad x3) [] w := by
  obtain ⟨r, w2, e1, e2, hR2⟩ := op_fault hR
  refine l_aload E dL_law_176 rfl 1 rfl ?_
  refine l_callV E my_X6_fault (wsG_in wG277) (g := 0) (ci := 5) (As := []) (rest := []) (c_X6_fault l D cs ad e1) rfl (by decide +kernel) rfl ⟨by decide, by decide⟩ (Nat.le_of_ble_eq_true rfl) dL_law_177 ?_
  refine l_aload E dL_law_180 rfl 2 rfl ?_
  refine l_callV E my_X7_fault (wsG_in wG821) (g := 12) (ci := 6) (As := []) (rest := [.int r]) (c_X7_fault l D cs ad e2) rfl (by decide +kernel) rfl ⟨by decide, by decide⟩ (Nat.le_of_ble_eq_true rfl) dL_law_181 ?_
  exact l_eq E dL_law_184 (by decide) (k _ hR2)
theorem lw_case3 (E : LE p s m meth c b L xs D cs ad) (hR : Rel w) (k : ∀ w', Rel w' → LV p l e s m below meth c b D cs ad 680 (lvL b ad x3) [] w') : LV p l e s m below meth c b D cs ad 189 (lvL b ad x3) [] w := by
  obtain ⟨r, w1, w2, e1, e2, hR2⟩ := op_code hR
  refine l_aload E dL_law_189 rfl 1 rfl ?_
  refine l_callV E my_X6_code (wsG_in wG302) (g := 0) (ci := 5) (As := []) (rest := []) (c_X6_code l D cs ad e1) rfl (by decide +kernel) rfl ⟨by decide, by decide⟩ (Nat.le_of_ble_eq_true rfl) dL_law_190 ?_
  refine l_aload E dL_law_193 rfl 2 rfl ?_
  refine l_callV E my_X7_code (wsG_in wG845) (g := 12) (ci := 6) (As := []) (rest := [.int r]) (c_X7_code l D cs ad e2) rfl (by decide +kernel) rfl ⟨by decide, by decide⟩ (Nat.le_of_ble_eq_true rfl) dL_law_194 ?_
  exact l_eq E dL_law_197 (by decide) (k _ hR2)
theorem lw_case4 (E : LE p s m meth c b L xs D cs ad) (hR : Rel w) (k : ∀ w', Rel w' → LV p l e s m below meth c b D cs ad 680 (lvL b ad x3) [] w') : LV p l e s m below meth c b D cs ad 202 (lvL b ad x3) [] w := by
  obtain ⟨r, w1, w2, e1, e2, hR2⟩ := op_drop hR
  refine l_aload E dL_law_202 rfl 1 rfl ?_
  refine l_callV E my_X6_drop (wsG_in wG390) (g := 0) (ci := 5) (As := []) (rest := []) (c_X6_drop l D cs ad e1) rfl (by decide +kernel) rfl ⟨by decide, by decide⟩ (Nat.le_of_ble_eq_true rfl) dL_law_203 ?_
  refine l_aload E dL_law_206 rfl 2 rfl ?_
  refine l_callV E my_X7_drop (wsG_in wG856) (g := 12) (ci := 6) (As := []) (rest := [.int r]) (c_X7_drop l D cs ad e2) rfl (by decide +kernel) rfl ⟨by decide, by decide⟩ (Nat.le_of_ble_eq_true rfl) dL_law_207 ?_
  exact l_eq E dL_law_210 (by decide) (k _ hR2)
theorem lw_case5 (E : LE p s m meth c b L xs D cs ad) (hR : Rel w) (h1 : vp_in (x3 + 1) L) (h2 : vp_in (x3 + 2) L) (k : ∀ w', Rel w' → LV p l e s m below meth c b D cs ad 680 (lvL b ad x3) [] w') : LV p l e s m below meth c b D cs ad 215 (lvL b ad x3) [] w := by
  obtain ⟨r, e1, e2⟩ := op_ink hR (xs (x3 + 1).toNatClampNeg) (xs (x3 + 2).toNatClampNeg)
  refine l_aload E dL_law_215 rfl 1 rfl ?_
  refine l_arg E (j := 1) (v := 1) h1 dL_law_216 dL_law_217 dL_law_218 (by decide) dL_law_219 dL_law_220 ?_
  refine l_arg E (j := 2) (v := 2) h2 dL_law_221 dL_law_222 dL_law_223 (by decide) dL_law_224 dL_law_225 ?_
  refine l_callV E my_X6_ink (wsG_in wG394) (g := 0) (ci := 5) (As := [.int (xs (x3 + 1).toNatClampNeg), .int (xs (x3 + 2).toNatClampNeg)]) (rest := []) (c_X6_ink l D cs ad e1) rfl (by decide +kernel) rfl ⟨by decide, by decide⟩ (Nat.le_of_ble_eq_true rfl) dL_law_226 ?_
  refine l_aload E dL_law_229 rfl 2 rfl ?_
  refine l_arg E (j := 1) (v := 1) h1 dL_law_230 dL_law_231 dL_law_232 (by decide) dL_law_233 dL_law_234 ?_
  refine l_arg E (j := 2) (v := 2) h2 dL_law_235 dL_law_236 dL_law_237 (by decide) dL_law_238 dL_law_239 ?_
  refine l_callV E my_X7_ink (wsG_in wG860) (g := 12) (ci := 6) (As := [.int (xs (x3 + 1).toNatClampNeg), .int (xs (x3 + 2).toNatClampNeg)]) (rest := [.int r]) (c_X7_ink l D cs ad e2) rfl (by decide +kernel) rfl ⟨by decide, by decide⟩ (Nat.le_of_ble_eq_true rfl) dL_law_240 ?_
  exact l_eq E dL_law_243 (by decide) (k _ hR)
theorem lw_case6 (E : LE p s m meth c b L xs D cs ad) (hR : Rel w) (h1 : vp_in (x3 + 1) L) (k : ∀ w', Rel w' → LV p l e s m below meth c b D cs ad 680 (lvL b ad x3) [] w') : LV p l e s m below meth c b D cs ad 248 (lvL b ad x3) [] w := by
  obtain ⟨r, w1, w2, e1, e2, hR2⟩ := op_open hR (xs (x3 + 1).toNatClampNeg)
  refine l_aload E dL_law_248 rfl 1 rfl ?_
  refine l_arg E (j := 1) (v := 1) h1 dL_law_249 dL_law_250 dL_law_251 (by decide) dL_law_252 dL_law_253 ?_
  refine l_callV E my_X6_open (wsG_in wG410) (g := 0) (ci := 5) (As := [.int (xs (x3 + 1).toNatClampNeg)]) (rest := []) (c_X6_open l D cs ad e1) rfl (by decide +kernel) rfl ⟨by decide, by decide⟩ (Nat.le_of_ble_eq_true rfl) dL_law_254 ?_
  refine l_aload E dL_law_257 rfl 2 rfl ?_
  refine l_arg E (j := 1) (v := 1) h1 dL_law_258 dL_law_259 dL_law_260 (by decide) dL_law_261 dL_law_262 ?_
  refine l_callV E my_X7_open (wsG_in wG878) (g := 12) (ci := 6) (As := [.int (xs (x3 + 1).toNatClampNeg)]) (rest := [.int r]) (c_X7_open l D cs ad e2) rfl (by decide +kernel) rfl ⟨by decide, by decide⟩ (Nat.le_of_ble_eq_true rfl) dL_law_263 ?_
  exact l_eq E dL_law_266 (by decide) (k _ hR2)
theorem lw_case7 (E : LE p s m meth c b L xs D cs ad) (hR : Rel w) (h1 : vp_in (x3 + 1) L) (k : ∀ w', Rel w' → LV p l e s m below meth c b D cs ad 680 (lvL b ad x3) [] w') : LV p l e s m below meth c b D cs ad 271 (lvL b ad x3) [] w := by
  obtain ⟨r, w1, w2, e1, e2, hR2⟩ := op_feed hR (xs (x3 + 1).toNatClampNeg)
  refine l_aload E dL_law_271 rfl 1 rfl ?_
  refine l_arg E (j := 1) (v := 1) h1 dL_law_272 dL_law_273 dL_law_274 (by decide) dL_law_275 dL_law_276 ?_
  refine l_callV E my_X6_feed (wsG_in wG418) (g := 0) (ci := 5) (As := [.int (xs (x3 + 1).toNatClampNeg)]) (rest := []) (c_X6_feed l D cs ad e1) rfl (by decide +kernel) rfl ⟨by decide, by decide⟩ (Nat.le_of_ble_eq_true rfl) dL_law_277 ?_
  refine l_aload E dL_law_280 rfl 2 rfl ?_
  refine l_arg E (j := 1) (v := 1) h1 dL_law_281 dL_law_282 dL_law_283 (by decide) dL_law_284 dL_law_285 ?_
  refine l_callV E my_X7_feed (wsG_in wG882) (g := 12) (ci := 6) (As := [.int (xs (x3 + 1).toNatClampNeg)]) (rest := [.int r]) (c_X7_feed l D cs ad e2) rfl (by decide +kernel) rfl ⟨by decide, by decide⟩ (Nat.le_of_ble_eq_true rfl) dL_law_286 ?_
  exact l_eq E dL_law_289 (by decide) (k _ hR2)
theorem lw_case8 (E : LE p s m meth c b L xs D cs ad) (hR : Rel w) (k : ∀ w', Rel w' → LV p l e s m below meth c b D cs ad 680 (lvL b ad x3) [] w') : LV p l e s m below meth c b D cs ad 294 (lvL b ad x3) [] w := by
  obtain ⟨r, w1, w2, e1, e2, hR2⟩ := op_feeds hR
  refine l_aload E dL_law_294 rfl 1 rfl ?_
  refine l_callV E my_X6_feeds (wsG_in wG429) (g := 0) (ci := 5) (As := []) (rest := []) (c_X6_feeds l D cs ad e1) rfl (by decide +kernel) rfl ⟨by decide, by decide⟩ (Nat.le_of_ble_eq_true rfl) dL_law_295 ?_
  refine l_aload E dL_law_298 rfl 2 rfl ?_
  refine l_callV E my_X7_feeds (wsG_in wG890) (g := 12) (ci := 6) (As := []) (rest := [.int r]) (c_X7_feeds l D cs ad e2) rfl (by decide +kernel) rfl ⟨by decide, by decide⟩ (Nat.le_of_ble_eq_true rfl) dL_law_299 ?_
  exact l_eq E dL_law_302 (by decide) (k _ hR2)
theorem lw_case9 (E : LE p s m meth c b L xs D cs ad) (hR : Rel w) (k : ∀ w', Rel w' → LV p l e s m below meth c b D cs ad 680 (lvL b ad x3) [] w') : LV p l e s m below meth c b D cs ad 307 (lvL b ad x3) [] w := by
  obtain ⟨r, w1, w2, e1, e2, hR2⟩ := op_back hR
  refine l_aload E dL_law_307 rfl 1 rfl ?_
  refine l_callV E my_X6_back (wsG_in wG433) (g := 0) (ci := 5) (As := []) (rest := []) (c_X6_back l D cs ad e1) rfl (by decide +kernel) rfl ⟨by decide, by decide⟩ (Nat.le_of_ble_eq_true rfl) dL_law_308 ?_
  refine l_aload E dL_law_311 rfl 2 rfl ?_
  refine l_callV E my_X7_back (wsG_in wG894) (g := 12) (ci := 6) (As := []) (rest := [.int r]) (c_X7_back l D cs ad e2) rfl (by decide +kernel) rfl ⟨by decide, by decide⟩ (Nat.le_of_ble_eq_true rfl) dL_law_312 ?_
  exact l_eq E dL_law_315 (by decide) (k _ hR2)
theorem lw_case10 (E : LE p s m meth c b L xs D cs ad) (hR : Rel w) (h1 : vp_in (x3 + 1) L) (k : ∀ w', Rel w' → LV p l e s m below meth c b D cs ad 680 (lvL b ad x3) [] w') : LV p l e s m below meth c b D cs ad 320 (lvL b ad x3) [] w := by
  obtain ⟨r, e1, e2⟩ := op_unit hR (xs (x3 + 1).toNatClampNeg)
  refine l_aload E dL_law_320 rfl 1 rfl ?_
  refine l_arg E (j := 1) (v := 1) h1 dL_law_321 dL_law_322 dL_law_323 (by decide) dL_law_324 dL_law_325 ?_
  refine l_callV E my_X6_unit (wsG_in wG437) (g := 0) (ci := 5) (As := [.int (xs (x3 + 1).toNatClampNeg)]) (rest := []) (c_X6_unit l D cs ad e1) rfl (by decide +kernel) rfl ⟨by decide, by decide⟩ (Nat.le_of_ble_eq_true rfl) dL_law_326 ?_
  refine l_aload E dL_law_329 rfl 2 rfl ?_
  refine l_arg E (j := 1) (v := 1) h1 dL_law_330 dL_law_331 dL_law_332 (by decide) dL_law_333 dL_law_334 ?_
  refine l_callV E my_X7_unit (wsG_in wG898) (g := 12) (ci := 6) (As := [.int (xs (x3 + 1).toNatClampNeg)]) (rest := [.int r]) (c_X7_unit l D cs ad e2) rfl (by decide +kernel) rfl ⟨by decide, by decide⟩ (Nat.le_of_ble_eq_true rfl) dL_law_335 ?_
  exact l_eq E dL_law_338 (by decide) (k _ hR)
theorem lw_case11 (E : LE p s m meth c b L xs D cs ad) (hR : Rel w) (h1 : vp_in (x3 + 1) L) (h2 : vp_in (x3 + 2) L) (k : ∀ w', Rel w' → LV p l e s m below meth c b D cs ad 680 (lvL b ad x3) [] w') : LV p l e s m below meth c b D cs ad 343 (lvL b ad x3) [] w := by
  obtain ⟨r, w1, w2, e1, e2, hR2⟩ := op_about hR (xs (x3 + 1).toNatClampNeg) (xs (x3 + 2).toNatClampNeg)
  refine l_aload E dL_law_343 rfl 1 rfl ?_
  refine l_arg E (j := 1) (v := 1) h1 dL_law_344 dL_law_345 dL_law_346 (by decide) dL_law_347 dL_law_348 ?_
  refine l_arg E (j := 2) (v := 2) h2 dL_law_349 dL_law_350 dL_law_351 (by decide) dL_law_352 dL_law_353 ?_
  refine l_callV E my_X6_about (wsG_in wG441) (g := 0) (ci := 5) (As := [.int (xs (x3 + 1).toNatClampNeg), .int (xs (x3 + 2).toNatClampNeg)]) (rest := []) (c_X6_about l D cs ad e1) rfl (by decide +kernel) rfl ⟨by decide, by decide⟩ (Nat.le_of_ble_eq_true rfl) dL_law_354 ?_
  refine l_aload E dL_law_357 rfl 2 rfl ?_
  refine l_arg E (j := 1) (v := 1) h1 dL_law_358 dL_law_359 dL_law_360 (by decide) dL_law_361 dL_law_362 ?_
  refine l_arg E (j := 2) (v := 2) h2 dL_law_363 dL_law_364 dL_law_365 (by decide) dL_law_366 dL_law_367 ?_
  refine l_callV E my_X7_about (wsG_in wG902) (g := 12) (ci := 6) (As := [.int (xs (x3 + 1).toNatClampNeg), .int (xs (x3 + 2).toNatClampNeg)]) (rest := [.int r]) (c_X7_about l D cs ad e2) rfl (by decide +kernel) rfl ⟨by decide, by decide⟩ (Nat.le_of_ble_eq_true rfl) dL_law_368 ?_
  exact l_eq E dL_law_371 (by decide) (k _ hR2)
theorem lw_case12 (E : LE p s m meth c b L xs D cs ad) (hR : Rel w) (h1 : vp_in (x3 + 1) L) (h2 : vp_in (x3 + 2) L) (k : ∀ w', Rel w' → LV p l e s m below meth c b D cs ad 680 (lvL b ad x3) [] w') : LV p l e s m below meth c b D cs ad 376 (lvL b ad x3) [] w := by
  obtain ⟨r, e1, e2⟩ := op_points hR (xs (x3 + 1).toNatClampNeg) (xs (x3 + 2).toNatClampNeg)
  refine l_aload E dL_law_376 rfl 1 rfl ?_
  refine l_arg E (j := 1) (v := 1) h1 dL_law_377 dL_law_378 dL_law_379 (by decide) dL_law_380 dL_law_381 ?_
  refine l_arg E (j := 2) (v := 2) h2 dL_law_382 dL_law_383 dL_law_384 (by decide) dL_law_385 dL_law_386 ?_
  refine l_callV E my_X6_points (wsG_in wG546) (g := 0) (ci := 5) (As := [.int (xs (x3 + 1).toNatClampNeg), .int (xs (x3 + 2).toNatClampNeg)]) (rest := []) (c_X6_points l D cs ad e1) rfl (by decide +kernel) rfl ⟨by decide, by decide⟩ (Nat.le_of_ble_eq_true rfl) dL_law_387 ?_
  refine l_aload E dL_law_390 rfl 2 rfl ?_
  refine l_arg E (j := 1) (v := 1) h1 dL_law_391 dL_law_392 dL_law_393 (by decide) dL_law_394 dL_law_395 ?_
  refine l_arg E (j := 2) (v := 2) h2 dL_law_396 dL_law_397 dL_law_398 (by decide) dL_law_399 dL_law_400 ?_
  refine l_callV E my_X7_points (wsG_in wG1017) (g := 12) (ci := 6) (As := [.int (xs (x3 + 1).toNatClampNeg), .int (xs (x3 + 2).toNatClampNeg)]) (rest := [.int r]) (c_X7_points l D cs ad e2) rfl (by decide +kernel) rfl ⟨by decide, by decide⟩ (Nat.le_of_ble_eq_true rfl) dL_law_401 ?_
  exact l_eq E dL_law_404 (by decide) (k _ hR)
theorem lw_case13 (E : LE p s m meth c b L xs D cs ad) (hR : Rel w) (h1 : vp_in (x3 + 1) L) (h2 : vp_in (x3 + 2) L) (k : ∀ w', Rel w' → LV p l e s m below meth c b D cs ad 680 (lvL b ad x3) [] w') : LV p l e s m below meth c b D cs ad 409 (lvL b ad x3) [] w := by
  obtain ⟨r, w2, e1, e2, hR2⟩ := op_pairs hR (xs (x3 + 1).toNatClampNeg) (xs (x3 + 2).toNatClampNeg)
  refine l_aload E dL_law_409 rfl 1 rfl ?_
  refine l_arg E (j := 1) (v := 1) h1 dL_law_410 dL_law_411 dL_law_412 (by decide) dL_law_413 dL_law_414 ?_
  refine l_arg E (j := 2) (v := 2) h2 dL_law_415 dL_law_416 dL_law_417 (by decide) dL_law_418 dL_law_419 ?_
  refine l_callV E my_X6_pairs (wsG_in wG552) (g := 0) (ci := 5) (As := [.int (xs (x3 + 1).toNatClampNeg), .int (xs (x3 + 2).toNatClampNeg)]) (rest := []) (c_X6_pairs l D cs ad e1) rfl (by decide +kernel) rfl ⟨by decide, by decide⟩ (Nat.le_of_ble_eq_true rfl) dL_law_420 ?_
  refine l_aload E dL_law_423 rfl 2 rfl ?_
  refine l_arg E (j := 1) (v := 1) h1 dL_law_424 dL_law_425 dL_law_426 (by decide) dL_law_427 dL_law_428 ?_
  refine l_arg E (j := 2) (v := 2) h2 dL_law_429 dL_law_430 dL_law_431 (by decide) dL_law_432 dL_law_433 ?_
  refine l_callV E my_X7_pairs (wsG_in wG1021) (g := 12) (ci := 6) (As := [.int (xs (x3 + 1).toNatClampNeg), .int (xs (x3 + 2).toNatClampNeg)]) (rest := [.int r]) (c_X7_pairs l D cs ad e2) rfl (by decide +kernel) rfl ⟨by decide, by decide⟩ (Nat.le_of_ble_eq_true rfl) dL_law_434 ?_
  exact l_eq E dL_law_437 (by decide) (k _ hR2)
theorem lw_case14 (E : LE p s m meth c b L xs D cs ad) (hR : Rel w) (k : ∀ w', Rel w' → LV p l e s m below meth c b D cs ad 680 (lvL b ad x3) [] w') : LV p l e s m below meth c b D cs ad 442 (lvL b ad x3) [] w := by
  obtain ⟨r, w2, e1, e2, hR2⟩ := op_judged hR
  refine l_aload E dL_law_442 rfl 1 rfl ?_
  refine l_callV E my_X6_judged (wsG_in wG560) (g := 0) (ci := 5) (As := []) (rest := []) (c_X6_judged l D cs ad e1) rfl (by decide +kernel) rfl ⟨by decide, by decide⟩ (Nat.le_of_ble_eq_true rfl) dL_law_443 ?_
  refine l_aload E dL_law_446 rfl 2 rfl ?_
  refine l_callV E my_X7_judged (wsG_in wG1029) (g := 12) (ci := 6) (As := []) (rest := [.int r]) (c_X7_judged l D cs ad e2) rfl (by decide +kernel) rfl ⟨by decide, by decide⟩ (Nat.le_of_ble_eq_true rfl) dL_law_447 ?_
  exact l_eq E dL_law_450 (by decide) (k _ hR2)
theorem lw_case15 (E : LE p s m meth c b L xs D cs ad) (hR : Rel w) (h1 : vp_in (x3 + 1) L) (k : ∀ w', Rel w' → LV p l e s m below meth c b D cs ad 680 (lvL b ad x3) [] w') : LV p l e s m below meth c b D cs ad 455 (lvL b ad x3) [] w := by
  obtain ⟨r, w2, e1, e2, hR2⟩ := op_rank hR (xs (x3 + 1).toNatClampNeg)
  refine l_aload E dL_law_455 rfl 1 rfl ?_
  refine l_arg E (j := 1) (v := 1) h1 dL_law_456 dL_law_457 dL_law_458 (by decide) dL_law_459 dL_law_460 ?_
  refine l_callV E my_X6_rank (wsG_in wG568) (g := 0) (ci := 5) (As := [.int (xs (x3 + 1).toNatClampNeg)]) (rest := []) (c_X6_rank l D cs ad e1) rfl (by decide +kernel) rfl ⟨by decide, by decide⟩ (Nat.le_of_ble_eq_true rfl) dL_law_461 ?_
  refine l_aload E dL_law_464 rfl 2 rfl ?_
  refine l_arg E (j := 1) (v := 1) h1 dL_law_465 dL_law_466 dL_law_467 (by decide) dL_law_468 dL_law_469 ?_
  refine l_callV E my_X7_rank (wsG_in wG1037) (g := 12) (ci := 6) (As := [.int (xs (x3 + 1).toNatClampNeg)]) (rest := [.int r]) (c_X7_rank l D cs ad e2) rfl (by decide +kernel) rfl ⟨by decide, by decide⟩ (Nat.le_of_ble_eq_true rfl) dL_law_470 ?_
  exact l_eq E dL_law_473 (by decide) (k _ hR2)
theorem lw_case16 (E : LE p s m meth c b L xs D cs ad) (hR : Rel w) (h1 : vp_in (x3 + 1) L) (h2 : vp_in (x3 + 2) L) (k : ∀ w', Rel w' → LV p l e s m below meth c b D cs ad 680 (lvL b ad x3) [] w') : LV p l e s m below meth c b D cs ad 478 (lvL b ad x3) [] w := by
  obtain ⟨r, w1, w2, e1, e2, hR2⟩ := op_rows hR (xs (x3 + 1).toNatClampNeg) (xs (x3 + 2).toNatClampNeg)
  refine l_aload E dL_law_478 rfl 1 rfl ?_
  refine l_arg E (j := 1) (v := 1) h1 dL_law_479 dL_law_480 dL_law_481 (by decide) dL_law_482 dL_law_483 ?_
  refine l_arg E (j := 2) (v := 2) h2 dL_law_484 dL_law_485 dL_law_486 (by decide) dL_law_487 dL_law_488 ?_
  refine l_callV E my_X6_rows (wsG_in wG569) (g := 0) (ci := 5) (As := [.int (xs (x3 + 1).toNatClampNeg), .int (xs (x3 + 2).toNatClampNeg)]) (rest := []) (c_X6_rows l D cs ad e1) rfl (by decide +kernel) rfl ⟨by decide, by decide⟩ (Nat.le_of_ble_eq_true rfl) dL_law_489 ?_
  refine l_aload E dL_law_492 rfl 2 rfl ?_
  refine l_arg E (j := 1) (v := 1) h1 dL_law_493 dL_law_494 dL_law_495 (by decide) dL_law_496 dL_law_497 ?_
  refine l_arg E (j := 2) (v := 2) h2 dL_law_498 dL_law_499 dL_law_500 (by decide) dL_law_501 dL_law_502 ?_
  refine l_callV E my_X7_rows (wsG_in wG1041) (g := 12) (ci := 6) (As := [.int (xs (x3 + 1).toNatClampNeg), .int (xs (x3 + 2).toNatClampNeg)]) (rest := [.int r]) (c_X7_rows l D cs ad e2) rfl (by decide +kernel) rfl ⟨by decide, by decide⟩ (Nat.le_of_ble_eq_true rfl) dL_law_503 ?_
  exact l_eq E dL_law_506 (by decide) (k _ hR2)
theorem lw_case17 (E : LE p s m meth c b L xs D cs ad) (hR : Rel w) (h1 : vp_in (x3 + 1) L) (h2 : vp_in (x3 + 2) L) (k : ∀ w', Rel w' → LV p l e s m below meth c b D cs ad 680 (lvL b ad x3) [] w') : LV p l e s m below meth c b D cs ad 511 (lvL b ad x3) [] w := by
  obtain ⟨r, w1, w2, e1, e2, hR2⟩ := op_apart hR (xs (x3 + 1).toNatClampNeg) (xs (x3 + 2).toNatClampNeg)
  refine l_aload E dL_law_511 rfl 1 rfl ?_
  refine l_arg E (j := 1) (v := 1) h1 dL_law_512 dL_law_513 dL_law_514 (by decide) dL_law_515 dL_law_516 ?_
  refine l_arg E (j := 2) (v := 2) h2 dL_law_517 dL_law_518 dL_law_519 (by decide) dL_law_520 dL_law_521 ?_
  refine l_callV E my_X6_apart (wsG_in wG584) (g := 0) (ci := 5) (As := [.int (xs (x3 + 1).toNatClampNeg), .int (xs (x3 + 2).toNatClampNeg)]) (rest := []) (c_X6_apart l D cs ad e1) rfl (by decide +kernel) rfl ⟨by decide, by decide⟩ (Nat.le_of_ble_eq_true rfl) dL_law_522 ?_
  refine l_aload E dL_law_525 rfl 2 rfl ?_
  refine l_arg E (j := 1) (v := 1) h1 dL_law_526 dL_law_527 dL_law_528 (by decide) dL_law_529 dL_law_530 ?_
  refine l_arg E (j := 2) (v := 2) h2 dL_law_531 dL_law_532 dL_law_533 (by decide) dL_law_534 dL_law_535 ?_
  refine l_callV E my_X7_apart (wsG_in wG1053) (g := 12) (ci := 6) (As := [.int (xs (x3 + 1).toNatClampNeg), .int (xs (x3 + 2).toNatClampNeg)]) (rest := [.int r]) (c_X7_apart l D cs ad e2) rfl (by decide +kernel) rfl ⟨by decide, by decide⟩ (Nat.le_of_ble_eq_true rfl) dL_law_536 ?_
  exact l_eq E dL_law_539 (by decide) (k _ hR2)
theorem lw_case18 (E : LE p s m meth c b L xs D cs ad) (hR : Rel w) (h1 : vp_in (x3 + 1) L) (h2 : vp_in (x3 + 2) L) (h3 : vp_in (x3 + 3) L) (k : ∀ w', Rel w' → LV p l e s m below meth c b D cs ad 680 (lvL b ad x3) [] w') : LV p l e s m below meth c b D cs ad 544 (lvL b ad x3) [] w := by
  obtain ⟨r, w1, w2, e1, e2, hR2⟩ := op_tells hR (xs (x3 + 1).toNatClampNeg) (xs (x3 + 2).toNatClampNeg) (xs (x3 + 3).toNatClampNeg)
  refine l_aload E dL_law_544 rfl 1 rfl ?_
  refine l_arg E (j := 1) (v := 1) h1 dL_law_545 dL_law_546 dL_law_547 (by decide) dL_law_548 dL_law_549 ?_
  refine l_arg E (j := 2) (v := 2) h2 dL_law_550 dL_law_551 dL_law_552 (by decide) dL_law_553 dL_law_554 ?_
  refine l_arg E (j := 3) (v := 3) h3 dL_law_555 dL_law_556 dL_law_557 (by decide) dL_law_558 dL_law_559 ?_
  refine l_callV E my_X6_tells (wsG_in wG613) (g := 0) (ci := 5) (As := [.int (xs (x3 + 1).toNatClampNeg), .int (xs (x3 + 2).toNatClampNeg), .int (xs (x3 + 3).toNatClampNeg)]) (rest := []) (c_X6_tells l D cs ad e1) rfl (by decide +kernel) rfl ⟨by decide, by decide⟩ (Nat.le_of_ble_eq_true rfl) dL_law_560 ?_
  refine l_aload E dL_law_563 rfl 2 rfl ?_
  refine l_arg E (j := 1) (v := 1) h1 dL_law_564 dL_law_565 dL_law_566 (by decide) dL_law_567 dL_law_568 ?_
  refine l_arg E (j := 2) (v := 2) h2 dL_law_569 dL_law_570 dL_law_571 (by decide) dL_law_572 dL_law_573 ?_
  refine l_arg E (j := 3) (v := 3) h3 dL_law_574 dL_law_575 dL_law_576 (by decide) dL_law_577 dL_law_578 ?_
  refine l_callV E my_X7_tells (wsG_in wG1077) (g := 12) (ci := 6) (As := [.int (xs (x3 + 1).toNatClampNeg), .int (xs (x3 + 2).toNatClampNeg), .int (xs (x3 + 3).toNatClampNeg)]) (rest := [.int r]) (c_X7_tells l D cs ad e2) rfl (by decide +kernel) rfl ⟨by decide, by decide⟩ (Nat.le_of_ble_eq_true rfl) dL_law_579 ?_
  exact l_eq E dL_law_582 (by decide) (k _ hR2)
theorem lw_case19 (E : LE p s m meth c b L xs D cs ad) (hR : Rel w) (h1 : vp_in (x3 + 1) L) (k : ∀ w', Rel w' → LV p l e s m below meth c b D cs ad 680 (lvL b ad x3) [] w') : LV p l e s m below meth c b D cs ad 587 (lvL b ad x3) [] w := by
  obtain ⟨r, w1, w2, e1, e2, hR2⟩ := op_cuts hR (xs (x3 + 1).toNatClampNeg)
  refine l_aload E dL_law_587 rfl 1 rfl ?_
  refine l_arg E (j := 1) (v := 1) h1 dL_law_588 dL_law_589 dL_law_590 (by decide) dL_law_591 dL_law_592 ?_
  refine l_callV E my_X6_cuts (wsG_in wG621) (g := 0) (ci := 5) (As := [.int (xs (x3 + 1).toNatClampNeg)]) (rest := []) (c_X6_cuts l D cs ad e1) rfl (by decide +kernel) rfl ⟨by decide, by decide⟩ (Nat.le_of_ble_eq_true rfl) dL_law_593 ?_
  refine l_aload E dL_law_596 rfl 2 rfl ?_
  refine l_arg E (j := 1) (v := 1) h1 dL_law_597 dL_law_598 dL_law_599 (by decide) dL_law_600 dL_law_601 ?_
  refine l_callV E my_X7_cuts (wsG_in wG1089) (g := 12) (ci := 6) (As := [.int (xs (x3 + 1).toNatClampNeg)]) (rest := [.int r]) (c_X7_cuts l D cs ad e2) rfl (by decide +kernel) rfl ⟨by decide, by decide⟩ (Nat.le_of_ble_eq_true rfl) dL_law_602 ?_
  exact l_eq E dL_law_605 (by decide) (k _ hR2)
theorem lw_case20 (E : LE p s m meth c b L xs D cs ad) (hR : Rel w) (h1 : vp_in (x3 + 1) L) (h2 : vp_in (x3 + 2) L) (k : ∀ w', Rel w' → LV p l e s m below meth c b D cs ad 680 (lvL b ad x3) [] w') : LV p l e s m below meth c b D cs ad 610 (lvL b ad x3) [] w := by
  obtain ⟨r, w1, w2, e1, e2, hR2⟩ := op_piece hR (xs (x3 + 1).toNatClampNeg) (xs (x3 + 2).toNatClampNeg)
  refine l_aload E dL_law_610 rfl 1 rfl ?_
  refine l_arg E (j := 1) (v := 1) h1 dL_law_611 dL_law_612 dL_law_613 (by decide) dL_law_614 dL_law_615 ?_
  refine l_arg E (j := 2) (v := 2) h2 dL_law_616 dL_law_617 dL_law_618 (by decide) dL_law_619 dL_law_620 ?_
  refine l_callV E my_X6_piece (wsG_in wG653) (g := 0) (ci := 5) (As := [.int (xs (x3 + 1).toNatClampNeg), .int (xs (x3 + 2).toNatClampNeg)]) (rest := []) (c_X6_piece l D cs ad e1) rfl (by decide +kernel) rfl ⟨by decide, by decide⟩ (Nat.le_of_ble_eq_true rfl) dL_law_621 ?_
  refine l_aload E dL_law_624 rfl 2 rfl ?_
  refine l_arg E (j := 1) (v := 1) h1 dL_law_625 dL_law_626 dL_law_627 (by decide) dL_law_628 dL_law_629 ?_
  refine l_arg E (j := 2) (v := 2) h2 dL_law_630 dL_law_631 dL_law_632 (by decide) dL_law_633 dL_law_634 ?_
  refine l_callV E my_X7_piece (wsG_in wG1105) (g := 12) (ci := 6) (As := [.int (xs (x3 + 1).toNatClampNeg), .int (xs (x3 + 2).toNatClampNeg)]) (rest := [.int r]) (c_X7_piece l D cs ad e2) rfl (by decide +kernel) rfl ⟨by decide, by decide⟩ (Nat.le_of_ble_eq_true rfl) dL_law_635 ?_
  exact l_eq E dL_law_638 (by decide) (k _ hR2)
theorem lw_case21 (E : LE p s m meth c b L xs D cs ad) (hR : Rel w) (h1 : vp_in (x3 + 1) L) (k : ∀ w', Rel w' → LV p l e s m below meth c b D cs ad 680 (lvL b ad x3) [] w') : LV p l e s m below meth c b D cs ad 643 (lvL b ad x3) [] w := by
  obtain ⟨r, w2, e1, e2, hR2⟩ := op_count hR (xs (x3 + 1).toNatClampNeg)
  refine l_aload E dL_law_643 rfl 1 rfl ?_
  refine l_arg E (j := 1) (v := 1) h1 dL_law_644 dL_law_645 dL_law_646 (by decide) dL_law_647 dL_law_648 ?_
  refine l_callV E my_X6_count (wsG_in wG661) (g := 0) (ci := 5) (As := [.int (xs (x3 + 1).toNatClampNeg)]) (rest := []) (c_X6_count l D cs ad e1) rfl (by decide +kernel) rfl ⟨by decide, by decide⟩ (Nat.le_of_ble_eq_true rfl) dL_law_649 ?_
  refine l_aload E dL_law_652 rfl 2 rfl ?_
  refine l_arg E (j := 1) (v := 1) h1 dL_law_653 dL_law_654 dL_law_655 (by decide) dL_law_656 dL_law_657 ?_
  refine l_callV E my_X7_count (wsG_in wG1113) (g := 12) (ci := 6) (As := [.int (xs (x3 + 1).toNatClampNeg)]) (rest := [.int r]) (c_X7_count l D cs ad e2) rfl (by decide +kernel) rfl ⟨by decide, by decide⟩ (Nat.le_of_ble_eq_true rfl) dL_law_658 ?_
  exact l_eq E dL_law_661 (by decide) (k _ hR2)
theorem lw_case22 (E : LE p s m meth c b L xs D cs ad) (hR : Rel w) (k : ∀ w', Rel w' → LV p l e s m below meth c b D cs ad 680 (lvL b ad x3) [] w') : LV p l e s m below meth c b D cs ad 666 (lvL b ad x3) [] w := by
  obtain ⟨r, w1, w2, e1, e2, hR2⟩ := op_digest hR
  refine l_aload E dL_law_666 rfl 1 rfl ?_
  refine l_callV E my_X6_digest (wsG_in wG673) (g := 0) (ci := 5) (As := []) (rest := []) (c_X6_digest l D cs ad e1) rfl (by decide +kernel) rfl ⟨by decide, by decide⟩ (Nat.le_of_ble_eq_true rfl) dL_law_667 ?_
  refine l_aload E dL_law_670 rfl 2 rfl ?_
  refine l_callV E my_X7_digest (wsG_in wG1129) (g := 12) (ci := 6) (As := []) (rest := [.long r]) (c_X7_digest l D cs ad e2) rfl (by decide +kernel) rfl ⟨by decide, by decide⟩ (Nat.le_of_ble_eq_true rfl) dL_law_671 ?_
  exact l_leq E dL_law_674 dL_law_675 (by decide) (k _ hR2)
theorem lw_switch (E : LE p s m meth c b L xs D cs ad) (hL : L ≤ 2048) {i : Nat} (hi : i + 4 ≤ L) (hR : Rel w) (k : ∀ w', Rel w' → LV p l e s m below meth c b D cs ad 680 (lvL b ad (iI (i : Nat))) [] w') (v : Int32) : LV p l e s m below meth c b D cs ad 32 (lvL b ad (iI (i : Nat))) [.int v] w := by
  have h1 : vp_in (iI (i : Nat) + 1) L := by rw [show (1 : Int32) = iI 1 from rfl, iI_add]; exact vp_iI (i := i + 1) (by omega) hL
  have h2 : vp_in (iI (i : Nat) + 2) L := by rw [show (2 : Int32) = iI 2 from rfl, iI_add]; exact vp_iI (i := i + 2) (by omega) hL
  have h3 : vp_in (iI (i : Nat) + 3) L := by rw [show (3 : Int32) = iI 3 from rfl, iI_add]; exact vp_iI (i := i + 3) (by omega) hL
  obtain ⟨z, hz, rfl⟩ := iI_ex v
  by_cases z0 : z = 0
  · subst z0; exact l_tin E (kv := iI 0) (a := 0) dL_law_32 rfl (by decide) (by decide) (by decide) rfl (by decide) (lw_case0 E hR h1 k)
  by_cases z1 : z = 1
  · subst z1; exact l_tin E (kv := iI 1) (a := 1) dL_law_32 rfl (by decide) (by decide) (by decide) rfl (by decide) (lw_case1 E hR k)
  by_cases z2 : z = 2
  · subst z2; exact l_tin E (kv := iI 2) (a := 2) dL_law_32 rfl (by decide) (by decide) (by decide) rfl (by decide) (lw_case2 E hR k)
  by_cases z3 : z = 3
  · subst z3; exact l_tin E (kv := iI 3) (a := 3) dL_law_32 rfl (by decide) (by decide) (by decide) rfl (by decide) (lw_case3 E hR k)
  by_cases z4 : z = 4
  · subst z4; exact l_tin E (kv := iI 4) (a := 4) dL_law_32 rfl (by decide) (by decide) (by decide) rfl (by decide) (lw_case4 E hR k)
  by_cases z5 : z = 5
  · subst z5; exact l_tin E (kv := iI 5) (a := 5) dL_law_32 rfl (by decide) (by decide) (by decide) rfl (by decide) (lw_case5 E hR h1 h2 k)
  by_cases z6 : z = 6
  · subst z6; exact l_tin E (kv := iI 6) (a := 6) dL_law_32 rfl (by decide) (by decide) (by decide) rfl (by decide) (lw_case6 E hR h1 k)
  by_cases z7 : z = 7
  · subst z7; exact l_tin E (kv := iI 7) (a := 7) dL_law_32 rfl (by decide) (by decide) (by decide) rfl (by decide) (lw_case7 E hR h1 k)
  by_cases z8 : z = 8
  · subst z8; exact l_tin E (kv := iI 8) (a := 8) dL_law_32 rfl (by decide) (by decide) (by decide) rfl (by decide) (lw_case8 E hR k)
  by_cases z9 : z = 9
  · subst z9; exact l_tin E (kv := iI 9) (a := 9) dL_law_32 rfl (by decide) (by decide) (by decide) rfl (by decide) (lw_case9 E hR k)
  by_cases z10 : z = 10
  · subst z10; exact l_tin E (kv := iI 10) (a := 10) dL_law_32 rfl (by decide) (by decide) (by decide) rfl (by decide) (lw_case10 E hR h1 k)
  by_cases z11 : z = 11
  · subst z11; exact l_tin E (kv := iI 11) (a := 11) dL_law_32 rfl (by decide) (by decide) (by decide) rfl (by decide) (lw_case11 E hR h1 h2 k)
  by_cases z12 : z = 12
  · subst z12; exact l_tin E (kv := iI 12) (a := 12) dL_law_32 rfl (by decide) (by decide) (by decide) rfl (by decide) (lw_case12 E hR h1 h2 k)
  by_cases z13 : z = 13
  · subst z13; exact l_tin E (kv := iI 13) (a := 13) dL_law_32 rfl (by decide) (by decide) (by decide) rfl (by decide) (lw_case13 E hR h1 h2 k)
  by_cases z14 : z = 14
  · subst z14; exact l_tin E (kv := iI 14) (a := 14) dL_law_32 rfl (by decide) (by decide) (by decide) rfl (by decide) (lw_case14 E hR k)
  by_cases z15 : z = 15
  · subst z15; exact l_tin E (kv := iI 15) (a := 15) dL_law_32 rfl (by decide) (by decide) (by decide) rfl (by decide) (lw_case15 E hR h1 k)
  by_cases z16 : z = 16
  · subst z16; exact l_tin E (kv := iI 16) (a := 16) dL_law_32 rfl (by decide) (by decide) (by decide) rfl (by decide) (lw_case16 E hR h1 h2 k)
  by_cases z17 : z = 17
  · subst z17; exact l_tin E (kv := iI 17) (a := 17) dL_law_32 rfl (by decide) (by decide) (by decide) rfl (by decide) (lw_case17 E hR h1 h2 k)
  by_cases z18 : z = 18
  · subst z18; exact l_tin E (kv := iI 18) (a := 18) dL_law_32 rfl (by decide) (by decide) (by decide) rfl (by decide) (lw_case18 E hR h1 h2 h3 k)
  by_cases z19 : z = 19
  · subst z19; exact l_tin E (kv := iI 19) (a := 19) dL_law_32 rfl (by decide) (by decide) (by decide) rfl (by decide) (lw_case19 E hR h1 k)
  by_cases z20 : z = 20
  · subst z20; exact l_tin E (kv := iI 20) (a := 20) dL_law_32 rfl (by decide) (by decide) (by decide) rfl (by decide) (lw_case20 E hR h1 h2 k)
  by_cases z21 : z = 21
  · subst z21; exact l_tin E (kv := iI 21) (a := 21) dL_law_32 rfl (by decide) (by decide) (by decide) rfl (by decide) (lw_case21 E hR h1 k)
  by_cases z22 : z = 22
  · subst z22; exact l_tin E (kv := iI 22) (a := 22) dL_law_32 rfl (by decide) (by decide) (by decide) rfl (by decide) (lw_case22 E hR k)
  refine l_tout E dL_law_32 ?_ (by decide) (k _ hR)
  rw [iI_toInt hz]; omega
theorem lw_all (E : LE p s m meth c b L xs D cs ad) (hL : L ≤ 2048) (hR : Rel w) : LV p l e s m below meth c b D cs ad 18 (lvL b ad (iI ((0 : Nat) : Int))) [] w := l_loop E hL (fun w i hi hR k => lw_switch E hL hi hR k _) (L + 1) 0 w (by omega) (by omega) hR
end LAWCASES
