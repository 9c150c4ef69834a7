/-! ===== the law, call by call ===== -/
section
variable {l : Launch} {E : Ev} {b Lx : Nat} {xs : Nat → Int32} {k n : Nat} {i : Int} {G : Sh} {D : Dm}
theorem lc_0 (hJ : J k n G D) (hLx : Lx ≤ 3584) (hi : 0 ≤ i ∧ i + 7 ≤ Lx) (nx : ∀ k n G D, J k n G D → LG l E b Lx xs k n 1648 i [] G D) : LG l E b Lx xs k n 216 i [] G D := by
  refine go_aload_n 1 dL_law_216 rfl rfl ?_
  obtain ⟨mc, ms, hf, hct⟩ : Pr l E 0 MX9_status MX10_status [] k n G D := pr_status hJ
  refine go_callT (M := MX9_status) (κ := 0) (c := 0) (as := []) (rest := []) mv_L_13 (hJ.L.1 0 _ rfl) rfl (by decide) ⟨Nat.le_of_ble_eq_true rfl, Nat.le_of_ble_eq_true rfl⟩ hf rfl rfl (Nat.le_of_ble_eq_true rfl) dL_law_217 hct ?_
  rintro r G' D1 ⟨k', n', hkn, hkb, hL', hct2⟩
  refine ⟨k', n', hkn, ?_⟩
  refine go_aload_n 2 dL_law_220 rfl rfl ?_
  refine go_cv0 (M := MX10_status) (κ := 0) (c := 107) (as := []) (rest := [vI r]) mv_L_17 (hL'.1 107 _ rfl) rfl (by decide) ⟨Nat.le_of_ble_eq_true rfl, Nat.le_of_ble_eq_true rfl⟩ hkb rfl rfl (Nat.le_of_ble_eq_true rfl) dL_law_221 hct2 ?_
  rintro r' G'' D2 ⟨rfl, hJ2⟩
  exact go_sameI 1648 dL_law_224 (by decide) (nx _ _ _ _ hJ2)
theorem lc_1 (hJ : J k n G D) (hLx : Lx ≤ 3584) (hi : 0 ≤ i ∧ i + 7 ≤ Lx) (nx : ∀ k n G D, J k n G D → LG l E b Lx xs k n 1648 i [] G D) : LG l E b Lx xs k n 229 i [] G D := by
  refine go_aload_n 1 dL_law_229 rfl rfl ?_
  obtain ⟨mc, ms, hf, hct⟩ : Pr l E 1 MX9_top MX10_top [] k n G D := pr_top hJ
  refine go_callT (M := MX9_top) (κ := 1) (c := 0) (as := []) (rest := []) mv_L_18 (hJ.L.1 0 _ rfl) rfl (by decide) ⟨Nat.le_of_ble_eq_true rfl, Nat.le_of_ble_eq_true rfl⟩ hf rfl rfl (Nat.le_of_ble_eq_true rfl) dL_law_230 hct ?_
  rintro r G' D1 ⟨k', n', hkn, hkb, hL', hct2⟩
  refine ⟨k', n', hkn, ?_⟩
  refine go_aload_n 2 dL_law_233 rfl rfl ?_
  refine go_cv0 (M := MX10_top) (κ := 1) (c := 107) (as := []) (rest := [vJ r]) mv_L_22 (hL'.1 107 _ rfl) rfl (by decide) ⟨Nat.le_of_ble_eq_true rfl, Nat.le_of_ble_eq_true rfl⟩ hkb rfl rfl (Nat.le_of_ble_eq_true rfl) dL_law_234 hct2 ?_
  rintro r' G'' D2 ⟨rfl, hJ2⟩
  exact go_sameJ 1648 dL_law_237 dL_law_238 (by decide) (nx _ _ _ _ hJ2)
theorem lc_2 (hJ : J k n G D) (hLx : Lx ≤ 3584) (hi : 0 ≤ i ∧ i + 7 ≤ Lx) (nx : ∀ k n G D, J k n G D → LG l E b Lx xs k n 1648 i [] G D) : LG l E b Lx xs k n 243 i [] G D := by
  refine go_aload_n 1 dL_law_243 rfl rfl ?_
  obtain ⟨mc, ms, hf, hct⟩ : Pr l E 1 MX9_bottom MX10_bottom [] k n G D := pr_bottom hJ
  refine go_callT (M := MX9_bottom) (κ := 1) (c := 0) (as := []) (rest := []) mv_L_23 (hJ.L.1 0 _ rfl) rfl (by decide) ⟨Nat.le_of_ble_eq_true rfl, Nat.le_of_ble_eq_true rfl⟩ hf rfl rfl (Nat.le_of_ble_eq_true rfl) dL_law_244 hct ?_
  rintro r G' D1 ⟨k', n', hkn, hkb, hL', hct2⟩
  refine ⟨k', n', hkn, ?_⟩
  refine go_aload_n 2 dL_law_247 rfl rfl ?_
  refine go_cv0 (M := MX10_bottom) (κ := 1) (c := 107) (as := []) (rest := [vJ r]) mv_L_26 (hL'.1 107 _ rfl) rfl (by decide) ⟨Nat.le_of_ble_eq_true rfl, Nat.le_of_ble_eq_true rfl⟩ hkb rfl rfl (Nat.le_of_ble_eq_true rfl) dL_law_248 hct2 ?_
  rintro r' G'' D2 ⟨rfl, hJ2⟩
  exact go_sameJ 1648 dL_law_251 dL_law_252 (by decide) (nx _ _ _ _ hJ2)
theorem lc_3 (hJ : J k n G D) (hLx : Lx ≤ 3584) (hi : 0 ≤ i ∧ i + 7 ≤ Lx) (nx : ∀ k n G D, J k n G D → LG l E b Lx xs k n 1648 i [] G D) : LG l E b Lx xs k n 257 i [] G D := by
  refine go_aload_n 1 dL_law_257 rfl rfl ?_
  refine go_sload_n 0 dL_law_258 rfl rfl ?_
  refine go_iload_n 3 dL_law_259 rfl rfl ?_
  refine go_iconst dL_law_260 ?_
  refine go_iadd dL_law_261 ?_
  refine go_sld (i := i + 1) hLx (by omega) dL_law_262 ?_
  refine go_sload_n 0 dL_law_263 rfl rfl ?_
  refine go_iload_n 3 dL_law_264 rfl rfl ?_
  refine go_iconst dL_law_265 ?_
  refine go_iadd dL_law_266 ?_
  refine go_sld (i := i + 2) hLx (by omega) dL_law_267 ?_
  refine go_sload_n 0 dL_law_268 rfl rfl ?_
  refine go_iload_n 3 dL_law_269 rfl rfl ?_
  refine go_iconst dL_law_270 ?_
  refine go_iadd dL_law_271 ?_
  refine go_sld (i := i + 3) hLx (by omega) dL_law_272 ?_
  obtain ⟨mc, ms, hf, hct⟩ : Pr l E 0 MX9_tray MX10_tray [vI (xs (i + 1).toNat).toInt, vI (xs (i + 2).toNat).toInt, vI (xs (i + 3).toNat).toInt] k n G D := pr_tray hJ (sc_b _) (sc_b _) (sc_b _)
  refine go_callT (M := MX9_tray) (κ := 0) (c := 0) (as := [vI (xs (i + 1).toNat).toInt, vI (xs (i + 2).toNat).toInt, vI (xs (i + 3).toNat).toInt]) (rest := []) mv_L_27 (hJ.L.1 0 _ rfl) rfl (by decide) ⟨Nat.le_of_ble_eq_true rfl, Nat.le_of_ble_eq_true rfl⟩ hf rfl rfl (Nat.le_of_ble_eq_true rfl) dL_law_273 hct ?_
  rintro r G' D1 ⟨k', n', hkn, hkb, hL', hct2⟩
  refine ⟨k', n', hkn, ?_⟩
  refine go_aload_n 2 dL_law_276 rfl rfl ?_
  refine go_sload_n 0 dL_law_277 rfl rfl ?_
  refine go_iload_n 3 dL_law_278 rfl rfl ?_
  refine go_iconst dL_law_279 ?_
  refine go_iadd dL_law_280 ?_
  refine go_sld (i := i + 1) hLx (by omega) dL_law_281 ?_
  refine go_sload_n 0 dL_law_282 rfl rfl ?_
  refine go_iload_n 3 dL_law_283 rfl rfl ?_
  refine go_iconst dL_law_284 ?_
  refine go_iadd dL_law_285 ?_
  refine go_sld (i := i + 2) hLx (by omega) dL_law_286 ?_
  refine go_sload_n 0 dL_law_287 rfl rfl ?_
  refine go_iload_n 3 dL_law_288 rfl rfl ?_
  refine go_iconst dL_law_289 ?_
  refine go_iadd dL_law_290 ?_
  refine go_sld (i := i + 3) hLx (by omega) dL_law_291 ?_
  refine go_cv0 (M := MX10_tray) (κ := 0) (c := 107) (as := [vI (xs (i + 1).toNat).toInt, vI (xs (i + 2).toNat).toInt, vI (xs (i + 3).toNat).toInt]) (rest := [vI r]) mv_L_31 (hL'.1 107 _ rfl) rfl (by decide) ⟨Nat.le_of_ble_eq_true rfl, Nat.le_of_ble_eq_true rfl⟩ hkb rfl rfl (Nat.le_of_ble_eq_true rfl) dL_law_292 hct2 ?_
  rintro r' G'' D2 ⟨rfl, hJ2⟩
  exact go_sameI 1648 dL_law_295 (by decide) (nx _ _ _ _ hJ2)
theorem lc_4 (hJ : J k n G D) (hLx : Lx ≤ 3584) (hi : 0 ≤ i ∧ i + 7 ≤ Lx) (nx : ∀ k n G D, J k n G D → LG l E b Lx xs k n 1648 i [] G D) : LG l E b Lx xs k n 300 i [] G D := by
  refine go_aload_n 1 dL_law_300 rfl rfl ?_
  refine go_sload_n 0 dL_law_301 rfl rfl ?_
  refine go_iload_n 3 dL_law_302 rfl rfl ?_
  refine go_iconst dL_law_303 ?_
  refine go_iadd dL_law_304 ?_
  refine go_sld (i := i + 1) hLx (by omega) dL_law_305 ?_
  refine go_sload_n 0 dL_law_306 rfl rfl ?_
  refine go_iload_n 3 dL_law_307 rfl rfl ?_
  refine go_iconst dL_law_308 ?_
  refine go_iadd dL_law_309 ?_
  refine go_sld (i := i + 2) hLx (by omega) dL_law_310 ?_
  refine go_sload_n 0 dL_law_311 rfl rfl ?_
  refine go_iload_n 3 dL_law_312 rfl rfl ?_
  refine go_iconst dL_law_313 ?_
  refine go_iadd dL_law_314 ?_
  refine go_sld (i := i + 3) hLx (by omega) dL_law_315 ?_
  refine go_i2l (sc_b _) dL_law_316 ?_
  refine go_bipush dL_law_317 (by decide) ?_
  refine go_lshl dL_law_319 ?_
  refine go_sload_n 0 dL_law_320 rfl rfl ?_
  refine go_iload_n 3 dL_law_321 rfl rfl ?_
  refine go_iconst dL_law_322 ?_
  refine go_iadd dL_law_323 ?_
  refine go_sld (i := i + 4) hLx (by omega) dL_law_324 ?_
  refine go_i2l (sc_b _) dL_law_325 ?_
  refine go_ldc2 (x := 4294967295) k_L_32 dL_law_326 ?_
  refine go_land dL_law_329 ?_
  refine go_lor dL_law_330 ?_
  obtain ⟨mc, ms, hf, hct⟩ : Pr l E 0 MX9_write MX10_write [vI (xs (i + 1).toNat).toInt, vI (xs (i + 2).toNat).toInt, vJ (jO (jSl (xs (i + 3).toNat).toInt 32) (jA (xs (i + 4).toNat).toInt 4294967295))] k n G D := pr_write hJ (sc_b _) (sc_b _) (jO_b _ _)
  refine go_callT (M := MX9_write) (κ := 0) (c := 0) (as := [vI (xs (i + 1).toNat).toInt, vI (xs (i + 2).toNat).toInt, vJ (jO (jSl (xs (i + 3).toNat).toInt 32) (jA (xs (i + 4).toNat).toInt 4294967295))]) (rest := []) mv_L_34 (hJ.L.1 0 _ rfl) rfl (by decide) ⟨Nat.le_of_ble_eq_true rfl, Nat.le_of_ble_eq_true rfl⟩ hf rfl rfl (Nat.le_of_ble_eq_true rfl) dL_law_331 hct ?_
  rintro r G' D1 ⟨k', n', hkn, hkb, hL', hct2⟩
  refine ⟨k', n', hkn, ?_⟩
  refine go_aload_n 2 dL_law_334 rfl rfl ?_
  refine go_sload_n 0 dL_law_335 rfl rfl ?_
  refine go_iload_n 3 dL_law_336 rfl rfl ?_
  refine go_iconst dL_law_337 ?_
  refine go_iadd dL_law_338 ?_
  refine go_sld (i := i + 1) hLx (by omega) dL_law_339 ?_
  refine go_sload_n 0 dL_law_340 rfl rfl ?_
  refine go_iload_n 3 dL_law_341 rfl rfl ?_
  refine go_iconst dL_law_342 ?_
  refine go_iadd dL_law_343 ?_
  refine go_sld (i := i + 2) hLx (by omega) dL_law_344 ?_
  refine go_sload_n 0 dL_law_345 rfl rfl ?_
  refine go_iload_n 3 dL_law_346 rfl rfl ?_
  refine go_iconst dL_law_347 ?_
  refine go_iadd dL_law_348 ?_
  refine go_sld (i := i + 3) hLx (by omega) dL_law_349 ?_
  refine go_i2l (sc_b _) dL_law_350 ?_
  refine go_bipush dL_law_351 (by decide) ?_
  refine go_lshl dL_law_353 ?_
  refine go_sload_n 0 dL_law_354 rfl rfl ?_
  refine go_iload_n 3 dL_law_355 rfl rfl ?_
  refine go_iconst dL_law_356 ?_
  refine go_iadd dL_law_357 ?_
  refine go_sld (i := i + 4) hLx (by omega) dL_law_358 ?_
  refine go_i2l (sc_b _) dL_law_359 ?_
  refine go_ldc2 (x := 4294967295) k_L_32 dL_law_360 ?_
  refine go_land dL_law_363 ?_
  refine go_lor dL_law_364 ?_
  refine go_cv0 (M := MX10_write) (κ := 0) (c := 107) (as := [vI (xs (i + 1).toNat).toInt, vI (xs (i + 2).toNat).toInt, vJ (jO (jSl (xs (i + 3).toNat).toInt 32) (jA (xs (i + 4).toNat).toInt 4294967295))]) (rest := [vI r]) mv_L_38 (hL'.1 107 _ rfl) rfl (by decide) ⟨Nat.le_of_ble_eq_true rfl, Nat.le_of_ble_eq_true rfl⟩ hkb rfl rfl (Nat.le_of_ble_eq_true rfl) dL_law_365 hct2 ?_
  rintro r' G'' D2 ⟨rfl, hJ2⟩
  exact go_sameI 1648 dL_law_368 (by decide) (nx _ _ _ _ hJ2)
theorem lc_5 (hJ : J k n G D) (hLx : Lx ≤ 3584) (hi : 0 ≤ i ∧ i + 7 ≤ Lx) (nx : ∀ k n G D, J k n G D → LG l E b Lx xs k n 1648 i [] G D) : LG l E b Lx xs k n 373 i [] G D := by
  refine go_aload_n 1 dL_law_373 rfl rfl ?_
  refine go_sload_n 0 dL_law_374 rfl rfl ?_
  refine go_iload_n 3 dL_law_375 rfl rfl ?_
  refine go_iconst dL_law_376 ?_
  refine go_iadd dL_law_377 ?_
  refine go_sld (i := i + 1) hLx (by omega) dL_law_378 ?_
  refine go_sload_n 0 dL_law_379 rfl rfl ?_
  refine go_iload_n 3 dL_law_380 rfl rfl ?_
  refine go_iconst dL_law_381 ?_
  refine go_iadd dL_law_382 ?_
  refine go_sld (i := i + 2) hLx (by omega) dL_law_383 ?_
  obtain ⟨mc, ms, hf, hct⟩ : Pr l E 1 MX9_read MX10_read [vI (xs (i + 1).toNat).toInt, vI (xs (i + 2).toNat).toInt] k n G D := pr_read hJ (sc_b _) (sc_b _)
  refine go_callT (M := MX9_read) (κ := 1) (c := 0) (as := [vI (xs (i + 1).toNat).toInt, vI (xs (i + 2).toNat).toInt]) (rest := []) mv_L_39 (hJ.L.1 0 _ rfl) rfl (by decide) ⟨Nat.le_of_ble_eq_true rfl, Nat.le_of_ble_eq_true rfl⟩ hf rfl rfl (Nat.le_of_ble_eq_true rfl) dL_law_384 hct ?_
  rintro r G' D1 ⟨k', n', hkn, hkb, hL', hct2⟩
  refine ⟨k', n', hkn, ?_⟩
  refine go_aload_n 2 dL_law_387 rfl rfl ?_
  refine go_sload_n 0 dL_law_388 rfl rfl ?_
  refine go_iload_n 3 dL_law_389 rfl rfl ?_
  refine go_iconst dL_law_390 ?_
  refine go_iadd dL_law_391 ?_
  refine go_sld (i := i + 1) hLx (by omega) dL_law_392 ?_
  refine go_sload_n 0 dL_law_393 rfl rfl ?_
  refine go_iload_n 3 dL_law_394 rfl rfl ?_
  refine go_iconst dL_law_395 ?_
  refine go_iadd dL_law_396 ?_
  refine go_sld (i := i + 2) hLx (by omega) dL_law_397 ?_
  refine go_cv0 (M := MX10_read) (κ := 1) (c := 107) (as := [vI (xs (i + 1).toNat).toInt, vI (xs (i + 2).toNat).toInt]) (rest := [vJ r]) mv_L_43 (hL'.1 107 _ rfl) rfl (by decide) ⟨Nat.le_of_ble_eq_true rfl, Nat.le_of_ble_eq_true rfl⟩ hkb rfl rfl (Nat.le_of_ble_eq_true rfl) dL_law_398 hct2 ?_
  rintro r' G'' D2 ⟨rfl, hJ2⟩
  exact go_sameJ 1648 dL_law_401 dL_law_402 (by decide) (nx _ _ _ _ hJ2)
theorem lc_6 (hJ : J k n G D) (hLx : Lx ≤ 3584) (hi : 0 ≤ i ∧ i + 7 ≤ Lx) (nx : ∀ k n G D, J k n G D → LG l E b Lx xs k n 1648 i [] G D) : LG l E b Lx xs k n 407 i [] G D := by
  refine go_aload_n 1 dL_law_407 rfl rfl ?_
  refine go_sload_n 0 dL_law_408 rfl rfl ?_
  refine go_iload_n 3 dL_law_409 rfl rfl ?_
  refine go_iconst dL_law_410 ?_
  refine go_iadd dL_law_411 ?_
  refine go_sld (i := i + 1) hLx (by omega) dL_law_412 ?_
  refine go_sload_n 0 dL_law_413 rfl rfl ?_
  refine go_iload_n 3 dL_law_414 rfl rfl ?_
  refine go_iconst dL_law_415 ?_
  refine go_iadd dL_law_416 ?_
  refine go_sld (i := i + 2) hLx (by omega) dL_law_417 ?_
  refine go_sload_n 0 dL_law_418 rfl rfl ?_
  refine go_iload_n 3 dL_law_419 rfl rfl ?_
  refine go_iconst dL_law_420 ?_
  refine go_iadd dL_law_421 ?_
  refine go_sld (i := i + 3) hLx (by omega) dL_law_422 ?_
  refine go_sload_n 0 dL_law_423 rfl rfl ?_
  refine go_iload_n 3 dL_law_424 rfl rfl ?_
  refine go_iconst dL_law_425 ?_
  refine go_iadd dL_law_426 ?_
  refine go_sld (i := i + 4) hLx (by omega) dL_law_427 ?_
  refine go_sload_n 0 dL_law_428 rfl rfl ?_
  refine go_iload_n 3 dL_law_429 rfl rfl ?_
  refine go_iconst dL_law_430 ?_
  refine go_iadd dL_law_431 ?_
  refine go_sld (i := i + 5) hLx (by omega) dL_law_432 ?_
  obtain ⟨mc, ms, hf, hct⟩ : Pr l E 0 MX9_pour MX10_pour [vI (xs (i + 1).toNat).toInt, vI (xs (i + 2).toNat).toInt, vI (xs (i + 3).toNat).toInt, vI (xs (i + 4).toNat).toInt, vI (xs (i + 5).toNat).toInt] k n G D := pr_pour hJ (sc_b _) (sc_b _) (sc_b _) (sc_b _) (sc_b _)
  refine go_callT (M := MX9_pour) (κ := 0) (c := 0) (as := [vI (xs (i + 1).toNat).toInt, vI (xs (i + 2).toNat).toInt, vI (xs (i + 3).toNat).toInt, vI (xs (i + 4).toNat).toInt, vI (xs (i + 5).toNat).toInt]) (rest := []) mv_L_44 (hJ.L.1 0 _ rfl) rfl (by decide) ⟨Nat.le_of_ble_eq_true rfl, Nat.le_of_ble_eq_true rfl⟩ hf rfl rfl (Nat.le_of_ble_eq_true rfl) dL_law_433 hct ?_
  rintro r G' D1 ⟨k', n', hkn, hkb, hL', hct2⟩
  refine ⟨k', n', hkn, ?_⟩
  refine go_aload_n 2 dL_law_436 rfl rfl ?_
  refine go_sload_n 0 dL_law_437 rfl rfl ?_
  refine go_iload_n 3 dL_law_438 rfl rfl ?_
  refine go_iconst dL_law_439 ?_
  refine go_iadd dL_law_440 ?_
  refine go_sld (i := i + 1) hLx (by omega) dL_law_441 ?_
  refine go_sload_n 0 dL_law_442 rfl rfl ?_
  refine go_iload_n 3 dL_law_443 rfl rfl ?_
  refine go_iconst dL_law_444 ?_
  refine go_iadd dL_law_445 ?_
  refine go_sld (i := i + 2) hLx (by omega) dL_law_446 ?_
  refine go_sload_n 0 dL_law_447 rfl rfl ?_
  refine go_iload_n 3 dL_law_448 rfl rfl ?_
  refine go_iconst dL_law_449 ?_
  refine go_iadd dL_law_450 ?_
  refine go_sld (i := i + 3) hLx (by omega) dL_law_451 ?_
  refine go_sload_n 0 dL_law_452 rfl rfl ?_
  refine go_iload_n 3 dL_law_453 rfl rfl ?_
  refine go_iconst dL_law_454 ?_
  refine go_iadd dL_law_455 ?_
  refine go_sld (i := i + 4) hLx (by omega) dL_law_456 ?_
  refine go_sload_n 0 dL_law_457 rfl rfl ?_
  refine go_iload_n 3 dL_law_458 rfl rfl ?_
  refine go_iconst dL_law_459 ?_
  refine go_iadd dL_law_460 ?_
  refine go_sld (i := i + 5) hLx (by omega) dL_law_461 ?_
  refine go_cv0 (M := MX10_pour) (κ := 0) (c := 107) (as := [vI (xs (i + 1).toNat).toInt, vI (xs (i + 2).toNat).toInt, vI (xs (i + 3).toNat).toInt, vI (xs (i + 4).toNat).toInt, vI (xs (i + 5).toNat).toInt]) (rest := [vI r]) mv_L_48 (hL'.1 107 _ rfl) rfl (by decide) ⟨Nat.le_of_ble_eq_true rfl, Nat.le_of_ble_eq_true rfl⟩ hkb rfl rfl (Nat.le_of_ble_eq_true rfl) dL_law_462 hct2 ?_
  rintro r' G'' D2 ⟨rfl, hJ2⟩
  exact go_sameI 1648 dL_law_465 (by decide) (nx _ _ _ _ hJ2)
theorem lc_7 (hJ : J k n G D) (hLx : Lx ≤ 3584) (hi : 0 ≤ i ∧ i + 7 ≤ Lx) (nx : ∀ k n G D, J k n G D → LG l E b Lx xs k n 1648 i [] G D) : LG l E b Lx xs k n 470 i [] G D := by
  refine go_aload_n 1 dL_law_470 rfl rfl ?_
  refine go_sload_n 0 dL_law_471 rfl rfl ?_
  refine go_iload_n 3 dL_law_472 rfl rfl ?_
  refine go_iconst dL_law_473 ?_
  refine go_iadd dL_law_474 ?_
  refine go_sld (i := i + 1) hLx (by omega) dL_law_475 ?_
  refine go_sload_n 0 dL_law_476 rfl rfl ?_
  refine go_iload_n 3 dL_law_477 rfl rfl ?_
  refine go_iconst dL_law_478 ?_
  refine go_iadd dL_law_479 ?_
  refine go_sld (i := i + 2) hLx (by omega) dL_law_480 ?_
  refine go_sload_n 0 dL_law_481 rfl rfl ?_
  refine go_iload_n 3 dL_law_482 rfl rfl ?_
  refine go_iconst dL_law_483 ?_
  refine go_iadd dL_law_484 ?_
  refine go_sld (i := i + 3) hLx (by omega) dL_law_485 ?_
  refine go_sload_n 0 dL_law_486 rfl rfl ?_
  refine go_iload_n 3 dL_law_487 rfl rfl ?_
  refine go_iconst dL_law_488 ?_
  refine go_iadd dL_law_489 ?_
  refine go_sld (i := i + 4) hLx (by omega) dL_law_490 ?_
  refine go_sload_n 0 dL_law_491 rfl rfl ?_
  refine go_iload_n 3 dL_law_492 rfl rfl ?_
  refine go_iconst dL_law_493 ?_
  refine go_iadd dL_law_494 ?_
  refine go_sld (i := i + 5) hLx (by omega) dL_law_495 ?_
  obtain ⟨mc, ms, hf, hct⟩ : Pr l E 0 MX9_feed MX10_feed [vI (xs (i + 1).toNat).toInt, vI (xs (i + 2).toNat).toInt, vI (xs (i + 3).toNat).toInt, vI (xs (i + 4).toNat).toInt, vI (xs (i + 5).toNat).toInt] k n G D := pr_feed hJ
  refine go_callT (M := MX9_feed) (κ := 0) (c := 0) (as := [vI (xs (i + 1).toNat).toInt, vI (xs (i + 2).toNat).toInt, vI (xs (i + 3).toNat).toInt, vI (xs (i + 4).toNat).toInt, vI (xs (i + 5).toNat).toInt]) (rest := []) mv_L_49 (hJ.L.1 0 _ rfl) rfl (by decide) ⟨Nat.le_of_ble_eq_true rfl, Nat.le_of_ble_eq_true rfl⟩ hf rfl rfl (Nat.le_of_ble_eq_true rfl) dL_law_496 hct ?_
  rintro r G' D1 ⟨k', n', hkn, hkb, hL', hct2⟩
  refine ⟨k', n', hkn, ?_⟩
  refine go_aload_n 2 dL_law_499 rfl rfl ?_
  refine go_sload_n 0 dL_law_500 rfl rfl ?_
  refine go_iload_n 3 dL_law_501 rfl rfl ?_
  refine go_iconst dL_law_502 ?_
  refine go_iadd dL_law_503 ?_
  refine go_sld (i := i + 1) hLx (by omega) dL_law_504 ?_
  refine go_sload_n 0 dL_law_505 rfl rfl ?_
  refine go_iload_n 3 dL_law_506 rfl rfl ?_
  refine go_iconst dL_law_507 ?_
  refine go_iadd dL_law_508 ?_
  refine go_sld (i := i + 2) hLx (by omega) dL_law_509 ?_
  refine go_sload_n 0 dL_law_510 rfl rfl ?_
  refine go_iload_n 3 dL_law_511 rfl rfl ?_
  refine go_iconst dL_law_512 ?_
  refine go_iadd dL_law_513 ?_
  refine go_sld (i := i + 3) hLx (by omega) dL_law_514 ?_
  refine go_sload_n 0 dL_law_515 rfl rfl ?_
  refine go_iload_n 3 dL_law_516 rfl rfl ?_
  refine go_iconst dL_law_517 ?_
  refine go_iadd dL_law_518 ?_
  refine go_sld (i := i + 4) hLx (by omega) dL_law_519 ?_
  refine go_sload_n 0 dL_law_520 rfl rfl ?_
  refine go_iload_n 3 dL_law_521 rfl rfl ?_
  refine go_iconst dL_law_522 ?_
  refine go_iadd dL_law_523 ?_
  refine go_sld (i := i + 5) hLx (by omega) dL_law_524 ?_
  refine go_cv0 (M := MX10_feed) (κ := 0) (c := 107) (as := [vI (xs (i + 1).toNat).toInt, vI (xs (i + 2).toNat).toInt, vI (xs (i + 3).toNat).toInt, vI (xs (i + 4).toNat).toInt, vI (xs (i + 5).toNat).toInt]) (rest := [vI r]) mv_L_53 (hL'.1 107 _ rfl) rfl (by decide) ⟨Nat.le_of_ble_eq_true rfl, Nat.le_of_ble_eq_true rfl⟩ hkb rfl rfl (Nat.le_of_ble_eq_true rfl) dL_law_525 hct2 ?_
  rintro r' G'' D2 ⟨rfl, hJ2⟩
  exact go_sameI 1648 dL_law_528 (by decide) (nx _ _ _ _ hJ2)
theorem lc_8 (hJ : J k n G D) (hLx : Lx ≤ 3584) (hi : 0 ≤ i ∧ i + 7 ≤ Lx) (nx : ∀ k n G D, J k n G D → LG l E b Lx xs k n 1648 i [] G D) : LG l E b Lx xs k n 533 i [] G D := by
  refine go_aload_n 1 dL_law_533 rfl rfl ?_
  refine go_sload_n 0 dL_law_534 rfl rfl ?_
  refine go_iload_n 3 dL_law_535 rfl rfl ?_
  refine go_iconst dL_law_536 ?_
  refine go_iadd dL_law_537 ?_
  refine go_sld (i := i + 1) hLx (by omega) dL_law_538 ?_
  obtain ⟨mc, ms, hf, hct⟩ : Pr l E 0 MX9_village MX10_village [vI (xs (i + 1).toNat).toInt] k n G D := pr_village hJ (sc_b _)
  refine go_callT (M := MX9_village) (κ := 0) (c := 0) (as := [vI (xs (i + 1).toNat).toInt]) (rest := []) mv_L_54 (hJ.L.1 0 _ rfl) rfl (by decide) ⟨Nat.le_of_ble_eq_true rfl, Nat.le_of_ble_eq_true rfl⟩ hf rfl rfl (Nat.le_of_ble_eq_true rfl) dL_law_539 hct ?_
  rintro r G' D1 ⟨k', n', hkn, hkb, hL', hct2⟩
  refine ⟨k', n', hkn, ?_⟩
  refine go_aload_n 2 dL_law_542 rfl rfl ?_
  refine go_sload_n 0 dL_law_543 rfl rfl ?_
  refine go_iload_n 3 dL_law_544 rfl rfl ?_
  refine go_iconst dL_law_545 ?_
  refine go_iadd dL_law_546 ?_
  refine go_sld (i := i + 1) hLx (by omega) dL_law_547 ?_
  refine go_cv0 (M := MX10_village) (κ := 0) (c := 107) (as := [vI (xs (i + 1).toNat).toInt]) (rest := [vI r]) mv_L_58 (hL'.1 107 _ rfl) rfl (by decide) ⟨Nat.le_of_ble_eq_true rfl, Nat.le_of_ble_eq_true rfl⟩ hkb rfl rfl (Nat.le_of_ble_eq_true rfl) dL_law_548 hct2 ?_
  rintro r' G'' D2 ⟨rfl, hJ2⟩
  exact go_sameI 1648 dL_law_551 (by decide) (nx _ _ _ _ hJ2)
theorem lc_9 (hJ : J k n G D) (hLx : Lx ≤ 3584) (hi : 0 ≤ i ∧ i + 7 ≤ Lx) (nx : ∀ k n G D, J k n G D → LG l E b Lx xs k n 1648 i [] G D) : LG l E b Lx xs k n 556 i [] G D := by
  refine go_aload_n 1 dL_law_556 rfl rfl ?_
  refine go_sload_n 0 dL_law_557 rfl rfl ?_
  refine go_iload_n 3 dL_law_558 rfl rfl ?_
  refine go_iconst dL_law_559 ?_
  refine go_iadd dL_law_560 ?_
  refine go_sld (i := i + 1) hLx (by omega) dL_law_561 ?_
  obtain ⟨mc, ms, hf, hct⟩ : Pr l E 0 MX9_fault MX10_fault [vI (xs (i + 1).toNat).toInt] k n G D := pr_fault hJ (sc_b _)
  refine go_callT (M := MX9_fault) (κ := 0) (c := 0) (as := [vI (xs (i + 1).toNat).toInt]) (rest := []) mv_L_59 (hJ.L.1 0 _ rfl) rfl (by decide) ⟨Nat.le_of_ble_eq_true rfl, Nat.le_of_ble_eq_true rfl⟩ hf rfl rfl (Nat.le_of_ble_eq_true rfl) dL_law_562 hct ?_
  rintro r G' D1 ⟨k', n', hkn, hkb, hL', hct2⟩
  refine ⟨k', n', hkn, ?_⟩
  refine go_aload_n 2 dL_law_565 rfl rfl ?_
  refine go_sload_n 0 dL_law_566 rfl rfl ?_
  refine go_iload_n 3 dL_law_567 rfl rfl ?_
  refine go_iconst dL_law_568 ?_
  refine go_iadd dL_law_569 ?_
  refine go_sld (i := i + 1) hLx (by omega) dL_law_570 ?_
  refine go_cv0 (M := MX10_fault) (κ := 0) (c := 107) (as := [vI (xs (i + 1).toNat).toInt]) (rest := [vI r]) mv_L_62 (hL'.1 107 _ rfl) rfl (by decide) ⟨Nat.le_of_ble_eq_true rfl, Nat.le_of_ble_eq_true rfl⟩ hkb rfl rfl (Nat.le_of_ble_eq_true rfl) dL_law_571 hct2 ?_
  rintro r' G'' D2 ⟨rfl, hJ2⟩
  exact go_sameI 1648 dL_law_574 (by decide) (nx _ _ _ _ hJ2)
theorem lc_10 (hJ : J k n G D) (hLx : Lx ≤ 3584) (hi : 0 ≤ i ∧ i + 7 ≤ Lx) (nx : ∀ k n G D, J k n G D → LG l E b Lx xs k n 1648 i [] G D) : LG l E b Lx xs k n 579 i [] G D := by
  refine go_aload_n 1 dL_law_579 rfl rfl ?_
  refine go_sload_n 0 dL_law_580 rfl rfl ?_
  refine go_iload_n 3 dL_law_581 rfl rfl ?_
  refine go_iconst dL_law_582 ?_
  refine go_iadd dL_law_583 ?_
  refine go_sld (i := i + 1) hLx (by omega) dL_law_584 ?_
  obtain ⟨mc, ms, hf, hct⟩ : Pr l E 0 MX9_many MX10_many [vI (xs (i + 1).toNat).toInt] k n G D := pr_many hJ (sc_b _)
  refine go_callT (M := MX9_many) (κ := 0) (c := 0) (as := [vI (xs (i + 1).toNat).toInt]) (rest := []) mv_L_63 (hJ.L.1 0 _ rfl) rfl (by decide) ⟨Nat.le_of_ble_eq_true rfl, Nat.le_of_ble_eq_true rfl⟩ hf rfl rfl (Nat.le_of_ble_eq_true rfl) dL_law_585 hct ?_
  rintro r G' D1 ⟨k', n', hkn, hkb, hL', hct2⟩
  refine ⟨k', n', hkn, ?_⟩
  refine go_aload_n 2 dL_law_588 rfl rfl ?_
  refine go_sload_n 0 dL_law_589 rfl rfl ?_
  refine go_iload_n 3 dL_law_590 rfl rfl ?_
  refine go_iconst dL_law_591 ?_
  refine go_iadd dL_law_592 ?_
  refine go_sld (i := i + 1) hLx (by omega) dL_law_593 ?_
  refine go_cv0 (M := MX10_many) (κ := 0) (c := 107) (as := [vI (xs (i + 1).toNat).toInt]) (rest := [vI r]) mv_L_66 (hL'.1 107 _ rfl) rfl (by decide) ⟨Nat.le_of_ble_eq_true rfl, Nat.le_of_ble_eq_true rfl⟩ hkb rfl rfl (Nat.le_of_ble_eq_true rfl) dL_law_594 hct2 ?_
  rintro r' G'' D2 ⟨rfl, hJ2⟩
  exact go_sameI 1648 dL_law_597 (by decide) (nx _ _ _ _ hJ2)
theorem lc_11 (hJ : J k n G D) (hLx : Lx ≤ 3584) (hi : 0 ≤ i ∧ i + 7 ≤ Lx) (nx : ∀ k n G D, J k n G D → LG l E b Lx xs k n 1648 i [] G D) : LG l E b Lx xs k n 602 i [] G D := by
  refine go_aload_n 1 dL_law_602 rfl rfl ?_
  refine go_sload_n 0 dL_law_603 rfl rfl ?_
  refine go_iload_n 3 dL_law_604 rfl rfl ?_
  refine go_iconst dL_law_605 ?_
  refine go_iadd dL_law_606 ?_
  refine go_sld (i := i + 1) hLx (by omega) dL_law_607 ?_
  refine go_sload_n 0 dL_law_608 rfl rfl ?_
  refine go_iload_n 3 dL_law_609 rfl rfl ?_
  refine go_iconst dL_law_610 ?_
  refine go_iadd dL_law_611 ?_
  refine go_sld (i := i + 2) hLx (by omega) dL_law_612 ?_
  obtain ⟨mc, ms, hf, hct⟩ : Pr l E 0 MX9_strip MX10_strip [vI (xs (i + 1).toNat).toInt, vI (xs (i + 2).toNat).toInt] k n G D := pr_strip hJ (sc_b _) (sc_b _)
  refine go_callT (M := MX9_strip) (κ := 0) (c := 0) (as := [vI (xs (i + 1).toNat).toInt, vI (xs (i + 2).toNat).toInt]) (rest := []) mv_L_67 (hJ.L.1 0 _ rfl) rfl (by decide) ⟨Nat.le_of_ble_eq_true rfl, Nat.le_of_ble_eq_true rfl⟩ hf rfl rfl (Nat.le_of_ble_eq_true rfl) dL_law_613 hct ?_
  rintro r G' D1 ⟨k', n', hkn, hkb, hL', hct2⟩
  refine ⟨k', n', hkn, ?_⟩
  refine go_aload_n 2 dL_law_616 rfl rfl ?_
  refine go_sload_n 0 dL_law_617 rfl rfl ?_
  refine go_iload_n 3 dL_law_618 rfl rfl ?_
  refine go_iconst dL_law_619 ?_
  refine go_iadd dL_law_620 ?_
  refine go_sld (i := i + 1) hLx (by omega) dL_law_621 ?_
  refine go_sload_n 0 dL_law_622 rfl rfl ?_
  refine go_iload_n 3 dL_law_623 rfl rfl ?_
  refine go_iconst dL_law_624 ?_
  refine go_iadd dL_law_625 ?_
  refine go_sld (i := i + 2) hLx (by omega) dL_law_626 ?_
  refine go_cv0 (M := MX10_strip) (κ := 0) (c := 107) (as := [vI (xs (i + 1).toNat).toInt, vI (xs (i + 2).toNat).toInt]) (rest := [vI r]) mv_L_71 (hL'.1 107 _ rfl) rfl (by decide) ⟨Nat.le_of_ble_eq_true rfl, Nat.le_of_ble_eq_true rfl⟩ hkb rfl rfl (Nat.le_of_ble_eq_true rfl) dL_law_627 hct2 ?_
  rintro r' G'' D2 ⟨rfl, hJ2⟩
  exact go_sameI 1648 dL_law_630 (by decide) (nx _ _ _ _ hJ2)
theorem lc_12 (hJ : J k n G D) (hLx : Lx ≤ 3584) (hi : 0 ≤ i ∧ i + 7 ≤ Lx) (nx : ∀ k n G D, J k n G D → LG l E b Lx xs k n 1648 i [] G D) : LG l E b Lx xs k n 635 i [] G D := by
  refine go_aload_n 1 dL_law_635 rfl rfl ?_
  refine go_sload_n 0 dL_law_636 rfl rfl ?_
  refine go_iload_n 3 dL_law_637 rfl rfl ?_
  refine go_iconst dL_law_638 ?_
  refine go_iadd dL_law_639 ?_
  refine go_sld (i := i + 1) hLx (by omega) dL_law_640 ?_
  refine go_sload_n 0 dL_law_641 rfl rfl ?_
  refine go_iload_n 3 dL_law_642 rfl rfl ?_
  refine go_iconst dL_law_643 ?_
  refine go_iadd dL_law_644 ?_
  refine go_sld (i := i + 2) hLx (by omega) dL_law_645 ?_
  obtain ⟨mc, ms, hf, hct⟩ : Pr l E 0 MX9_harm MX10_harm [vI (xs (i + 1).toNat).toInt, vI (xs (i + 2).toNat).toInt] k n G D := pr_harm hJ (sc_b _) (sc_b _)
  refine go_callT (M := MX9_harm) (κ := 0) (c := 0) (as := [vI (xs (i + 1).toNat).toInt, vI (xs (i + 2).toNat).toInt]) (rest := []) mv_L_72 (hJ.L.1 0 _ rfl) rfl (by decide) ⟨Nat.le_of_ble_eq_true rfl, Nat.le_of_ble_eq_true rfl⟩ hf rfl rfl (Nat.le_of_ble_eq_true rfl) dL_law_646 hct ?_
  rintro r G' D1 ⟨k', n', hkn, hkb, hL', hct2⟩
  refine ⟨k', n', hkn, ?_⟩
  refine go_aload_n 2 dL_law_649 rfl rfl ?_
  refine go_sload_n 0 dL_law_650 rfl rfl ?_
  refine go_iload_n 3 dL_law_651 rfl rfl ?_
  refine go_iconst dL_law_652 ?_
  refine go_iadd dL_law_653 ?_
  refine go_sld (i := i + 1) hLx (by omega) dL_law_654 ?_
  refine go_sload_n 0 dL_law_655 rfl rfl ?_
  refine go_iload_n 3 dL_law_656 rfl rfl ?_
  refine go_iconst dL_law_657 ?_
  refine go_iadd dL_law_658 ?_
  refine go_sld (i := i + 2) hLx (by omega) dL_law_659 ?_
  refine go_cv0 (M := MX10_harm) (κ := 0) (c := 107) (as := [vI (xs (i + 1).toNat).toInt, vI (xs (i + 2).toNat).toInt]) (rest := [vI r]) mv_L_75 (hL'.1 107 _ rfl) rfl (by decide) ⟨Nat.le_of_ble_eq_true rfl, Nat.le_of_ble_eq_true rfl⟩ hkb rfl rfl (Nat.le_of_ble_eq_true rfl) dL_law_660 hct2 ?_
  rintro r' G'' D2 ⟨rfl, hJ2⟩
  exact go_sameI 1648 dL_law_663 (by decide) (nx _ _ _ _ hJ2)
theorem lc_13 (hJ : J k n G D) (hLx : Lx ≤ 3584) (hi : 0 ≤ i ∧ i + 7 ≤ Lx) (nx : ∀ k n G D, J k n G D → LG l E b Lx xs k n 1648 i [] G D) : LG l E b Lx xs k n 668 i [] G D := by
  refine go_aload_n 1 dL_law_668 rfl rfl ?_
  refine go_sload_n 0 dL_law_669 rfl rfl ?_
  refine go_iload_n 3 dL_law_670 rfl rfl ?_
  refine go_iconst dL_law_671 ?_
  refine go_iadd dL_law_672 ?_
  refine go_sld (i := i + 1) hLx (by omega) dL_law_673 ?_
  refine go_sload_n 0 dL_law_674 rfl rfl ?_
  refine go_iload_n 3 dL_law_675 rfl rfl ?_
  refine go_iconst dL_law_676 ?_
  refine go_iadd dL_law_677 ?_
  refine go_sld (i := i + 2) hLx (by omega) dL_law_678 ?_
  obtain ⟨mc, ms, hf, hct⟩ : Pr l E 0 MX9_family MX10_family [vI (xs (i + 1).toNat).toInt, vI (xs (i + 2).toNat).toInt] k n G D := pr_family hJ (sc_b _) (sc_b _)
  refine go_callT (M := MX9_family) (κ := 0) (c := 0) (as := [vI (xs (i + 1).toNat).toInt, vI (xs (i + 2).toNat).toInt]) (rest := []) mv_L_76 (hJ.L.1 0 _ rfl) rfl (by decide) ⟨Nat.le_of_ble_eq_true rfl, Nat.le_of_ble_eq_true rfl⟩ hf rfl rfl (Nat.le_of_ble_eq_true rfl) dL_law_679 hct ?_
  rintro r G' D1 ⟨k', n', hkn, hkb, hL', hct2⟩
  refine ⟨k', n', hkn, ?_⟩
  refine go_aload_n 2 dL_law_682 rfl rfl ?_
  refine go_sload_n 0 dL_law_683 rfl rfl ?_
  refine go_iload_n 3 dL_law_684 rfl rfl ?_
  refine go_iconst dL_law_685 ?_
  refine go_iadd dL_law_686 ?_
  refine go_sld (i := i + 1) hLx (by omega) dL_law_687 ?_
  refine go_sload_n 0 dL_law_688 rfl rfl ?_
  refine go_iload_n 3 dL_law_689 rfl rfl ?_
  refine go_iconst dL_law_690 ?_
  refine go_iadd dL_law_691 ?_
  refine go_sld (i := i + 2) hLx (by omega) dL_law_692 ?_
  refine go_cv0 (M := MX10_family) (κ := 0) (c := 107) (as := [vI (xs (i + 1).toNat).toInt, vI (xs (i + 2).toNat).toInt]) (rest := [vI r]) mv_L_79 (hL'.1 107 _ rfl) rfl (by decide) ⟨Nat.le_of_ble_eq_true rfl, Nat.le_of_ble_eq_true rfl⟩ hkb rfl rfl (Nat.le_of_ble_eq_true rfl) dL_law_693 hct2 ?_
  rintro r' G'' D2 ⟨rfl, hJ2⟩
  exact go_sameI 1648 dL_law_696 (by decide) (nx _ _ _ _ hJ2)
theorem lc_14 (hJ : J k n G D) (hLx : Lx ≤ 3584) (hi : 0 ≤ i ∧ i + 7 ≤ Lx) (nx : ∀ k n G D, J k n G D → LG l E b Lx xs k n 1648 i [] G D) : LG l E b Lx xs k n 701 i [] G D := by
  refine go_aload_n 1 dL_law_701 rfl rfl ?_
  refine go_sload_n 0 dL_law_702 rfl rfl ?_
  refine go_iload_n 3 dL_law_703 rfl rfl ?_
  refine go_iconst dL_law_704 ?_
  refine go_iadd dL_law_705 ?_
  refine go_sld (i := i + 1) hLx (by omega) dL_law_706 ?_
  refine go_sload_n 0 dL_law_707 rfl rfl ?_
  refine go_iload_n 3 dL_law_708 rfl rfl ?_
  refine go_iconst dL_law_709 ?_
  refine go_iadd dL_law_710 ?_
  refine go_sld (i := i + 2) hLx (by omega) dL_law_711 ?_
  obtain ⟨mc, ms, hf, hct⟩ : Pr l E 0 MX9_hold MX10_hold [vI (xs (i + 1).toNat).toInt, vI (xs (i + 2).toNat).toInt] k n G D := pr_hold hJ (sc_b _) (sc_b _)
  refine go_callT (M := MX9_hold) (κ := 0) (c := 0) (as := [vI (xs (i + 1).toNat).toInt, vI (xs (i + 2).toNat).toInt]) (rest := []) mv_L_80 (hJ.L.1 0 _ rfl) rfl (by decide) ⟨Nat.le_of_ble_eq_true rfl, Nat.le_of_ble_eq_true rfl⟩ hf rfl rfl (Nat.le_of_ble_eq_true rfl) dL_law_712 hct ?_
  rintro r G' D1 ⟨k', n', hkn, hkb, hL', hct2⟩
  refine ⟨k', n', hkn, ?_⟩
  refine go_aload_n 2 dL_law_715 rfl rfl ?_
  refine go_sload_n 0 dL_law_716 rfl rfl ?_
  refine go_iload_n 3 dL_law_717 rfl rfl ?_
  refine go_iconst dL_law_718 ?_
  refine go_iadd dL_law_719 ?_
  refine go_sld (i := i + 1) hLx (by omega) dL_law_720 ?_
  refine go_sload_n 0 dL_law_721 rfl rfl ?_
  refine go_iload_n 3 dL_law_722 rfl rfl ?_
  refine go_iconst dL_law_723 ?_
  refine go_iadd dL_law_724 ?_
  refine go_sld (i := i + 2) hLx (by omega) dL_law_725 ?_
  refine go_cv0 (M := MX10_hold) (κ := 0) (c := 107) (as := [vI (xs (i + 1).toNat).toInt, vI (xs (i + 2).toNat).toInt]) (rest := [vI r]) mv_L_84 (hL'.1 107 _ rfl) rfl (by decide) ⟨Nat.le_of_ble_eq_true rfl, Nat.le_of_ble_eq_true rfl⟩ hkb rfl rfl (Nat.le_of_ble_eq_true rfl) dL_law_726 hct2 ?_
  rintro r' G'' D2 ⟨rfl, hJ2⟩
  exact go_sameI 1648 dL_law_729 (by decide) (nx _ _ _ _ hJ2)
theorem lc_15 (hJ : J k n G D) (hLx : Lx ≤ 3584) (hi : 0 ≤ i ∧ i + 7 ≤ Lx) (nx : ∀ k n G D, J k n G D → LG l E b Lx xs k n 1648 i [] G D) : LG l E b Lx xs k n 734 i [] G D := by
  refine go_aload_n 1 dL_law_734 rfl rfl ?_
  refine go_sload_n 0 dL_law_735 rfl rfl ?_
  refine go_iload_n 3 dL_law_736 rfl rfl ?_
  refine go_iconst dL_law_737 ?_
  refine go_iadd dL_law_738 ?_
  refine go_sld (i := i + 1) hLx (by omega) dL_law_739 ?_
  refine go_sload_n 0 dL_law_740 rfl rfl ?_
  refine go_iload_n 3 dL_law_741 rfl rfl ?_
  refine go_iconst dL_law_742 ?_
  refine go_iadd dL_law_743 ?_
  refine go_sld (i := i + 2) hLx (by omega) dL_law_744 ?_
  obtain ⟨mc, ms, hf, hct⟩ : Pr l E 0 MX9_let MX10_let [vI (xs (i + 1).toNat).toInt, vI (xs (i + 2).toNat).toInt] k n G D := pr_let hJ (sc_b _) (sc_b _)
  refine go_callT (M := MX9_let) (κ := 0) (c := 0) (as := [vI (xs (i + 1).toNat).toInt, vI (xs (i + 2).toNat).toInt]) (rest := []) mv_L_85 (hJ.L.1 0 _ rfl) rfl (by decide) ⟨Nat.le_of_ble_eq_true rfl, Nat.le_of_ble_eq_true rfl⟩ hf rfl rfl (Nat.le_of_ble_eq_true rfl) dL_law_745 hct ?_
  rintro r G' D1 ⟨k', n', hkn, hkb, hL', hct2⟩
  refine ⟨k', n', hkn, ?_⟩
  refine go_aload_n 2 dL_law_748 rfl rfl ?_
  refine go_sload_n 0 dL_law_749 rfl rfl ?_
  refine go_iload_n 3 dL_law_750 rfl rfl ?_
  refine go_iconst dL_law_751 ?_
  refine go_iadd dL_law_752 ?_
  refine go_sld (i := i + 1) hLx (by omega) dL_law_753 ?_
  refine go_sload_n 0 dL_law_754 rfl rfl ?_
  refine go_iload_n 3 dL_law_755 rfl rfl ?_
  refine go_iconst dL_law_756 ?_
  refine go_iadd dL_law_757 ?_
  refine go_sld (i := i + 2) hLx (by omega) dL_law_758 ?_
  refine go_cv0 (M := MX10_let) (κ := 0) (c := 107) (as := [vI (xs (i + 1).toNat).toInt, vI (xs (i + 2).toNat).toInt]) (rest := [vI r]) mv_L_88 (hL'.1 107 _ rfl) rfl (by decide) ⟨Nat.le_of_ble_eq_true rfl, Nat.le_of_ble_eq_true rfl⟩ hkb rfl rfl (Nat.le_of_ble_eq_true rfl) dL_law_759 hct2 ?_
  rintro r' G'' D2 ⟨rfl, hJ2⟩
  exact go_sameI 1648 dL_law_762 (by decide) (nx _ _ _ _ hJ2)
theorem lc_16 (hJ : J k n G D) (hLx : Lx ≤ 3584) (hi : 0 ≤ i ∧ i + 7 ≤ Lx) (nx : ∀ k n G D, J k n G D → LG l E b Lx xs k n 1648 i [] G D) : LG l E b Lx xs k n 767 i [] G D := by
  refine go_aload_n 1 dL_law_767 rfl rfl ?_
  refine go_sload_n 0 dL_law_768 rfl rfl ?_
  refine go_iload_n 3 dL_law_769 rfl rfl ?_
  refine go_iconst dL_law_770 ?_
  refine go_iadd dL_law_771 ?_
  refine go_sld (i := i + 1) hLx (by omega) dL_law_772 ?_
  refine go_sload_n 0 dL_law_773 rfl rfl ?_
  refine go_iload_n 3 dL_law_774 rfl rfl ?_
  refine go_iconst dL_law_775 ?_
  refine go_iadd dL_law_776 ?_
  refine go_sld (i := i + 2) hLx (by omega) dL_law_777 ?_
  obtain ⟨mc, ms, hf, hct⟩ : Pr l E 0 MX9_likely MX10_likely [vI (xs (i + 1).toNat).toInt, vI (xs (i + 2).toNat).toInt] k n G D := pr_likely hJ (sc_b _) (sc_b _)
  refine go_callT (M := MX9_likely) (κ := 0) (c := 0) (as := [vI (xs (i + 1).toNat).toInt, vI (xs (i + 2).toNat).toInt]) (rest := []) mv_L_89 (hJ.L.1 0 _ rfl) rfl (by decide) ⟨Nat.le_of_ble_eq_true rfl, Nat.le_of_ble_eq_true rfl⟩ hf rfl rfl (Nat.le_of_ble_eq_true rfl) dL_law_778 hct ?_
  rintro r G' D1 ⟨k', n', hkn, hkb, hL', hct2⟩
  refine ⟨k', n', hkn, ?_⟩
  refine go_aload_n 2 dL_law_781 rfl rfl ?_
  refine go_sload_n 0 dL_law_782 rfl rfl ?_
  refine go_iload_n 3 dL_law_783 rfl rfl ?_
  refine go_iconst dL_law_784 ?_
  refine go_iadd dL_law_785 ?_
  refine go_sld (i := i + 1) hLx (by omega) dL_law_786 ?_
  refine go_sload_n 0 dL_law_787 rfl rfl ?_
  refine go_iload_n 3 dL_law_788 rfl rfl ?_
  refine go_iconst dL_law_789 ?_
  refine go_iadd dL_law_790 ?_
  refine go_sld (i := i + 2) hLx (by omega) dL_law_791 ?_
  refine go_cv0 (M := MX10_likely) (κ := 0) (c := 107) (as := [vI (xs (i + 1).toNat).toInt, vI (xs (i + 2).toNat).toInt]) (rest := [vI r]) mv_L_92 (hL'.1 107 _ rfl) rfl (by decide) ⟨Nat.le_of_ble_eq_true rfl, Nat.le_of_ble_eq_true rfl⟩ hkb rfl rfl (Nat.le_of_ble_eq_true rfl) dL_law_792 hct2 ?_
  rintro r' G'' D2 ⟨rfl, hJ2⟩
  exact go_sameI 1648 dL_law_795 (by decide) (nx _ _ _ _ hJ2)
theorem lc_17 (hJ : J k n G D) (hLx : Lx ≤ 3584) (hi : 0 ≤ i ∧ i + 7 ≤ Lx) (nx : ∀ k n G D, J k n G D → LG l E b Lx xs k n 1648 i [] G D) : LG l E b Lx xs k n 800 i [] G D := by
  refine go_aload_n 1 dL_law_800 rfl rfl ?_
  refine go_sload_n 0 dL_law_801 rfl rfl ?_
  refine go_iload_n 3 dL_law_802 rfl rfl ?_
  refine go_iconst dL_law_803 ?_
  refine go_iadd dL_law_804 ?_
  refine go_sld (i := i + 1) hLx (by omega) dL_law_805 ?_
  obtain ⟨mc, ms, hf, hct⟩ : Pr l E 1 MX9_weight MX10_weight [vI (xs (i + 1).toNat).toInt] k n G D := pr_weight hJ (sc_b _)
  refine go_callT (M := MX9_weight) (κ := 1) (c := 0) (as := [vI (xs (i + 1).toNat).toInt]) (rest := []) mv_L_93 (hJ.L.1 0 _ rfl) rfl (by decide) ⟨Nat.le_of_ble_eq_true rfl, Nat.le_of_ble_eq_true rfl⟩ hf rfl rfl (Nat.le_of_ble_eq_true rfl) dL_law_806 hct ?_
  rintro r G' D1 ⟨k', n', hkn, hkb, hL', hct2⟩
  refine ⟨k', n', hkn, ?_⟩
  refine go_aload_n 2 dL_law_809 rfl rfl ?_
  refine go_sload_n 0 dL_law_810 rfl rfl ?_
  refine go_iload_n 3 dL_law_811 rfl rfl ?_
  refine go_iconst dL_law_812 ?_
  refine go_iadd dL_law_813 ?_
  refine go_sld (i := i + 1) hLx (by omega) dL_law_814 ?_
  refine go_cv0 (M := MX10_weight) (κ := 1) (c := 107) (as := [vI (xs (i + 1).toNat).toInt]) (rest := [vJ r]) mv_L_97 (hL'.1 107 _ rfl) rfl (by decide) ⟨Nat.le_of_ble_eq_true rfl, Nat.le_of_ble_eq_true rfl⟩ hkb rfl rfl (Nat.le_of_ble_eq_true rfl) dL_law_815 hct2 ?_
  rintro r' G'' D2 ⟨rfl, hJ2⟩
  exact go_sameJ 1648 dL_law_818 dL_law_819 (by decide) (nx _ _ _ _ hJ2)
theorem lc_18 (hJ : J k n G D) (hLx : Lx ≤ 3584) (hi : 0 ≤ i ∧ i + 7 ≤ Lx) (nx : ∀ k n G D, J k n G D → LG l E b Lx xs k n 1648 i [] G D) : LG l E b Lx xs k n 824 i [] G D := by
  refine go_aload_n 1 dL_law_824 rfl rfl ?_
  refine go_sload_n 0 dL_law_825 rfl rfl ?_
  refine go_iload_n 3 dL_law_826 rfl rfl ?_
  refine go_iconst dL_law_827 ?_
  refine go_iadd dL_law_828 ?_
  refine go_sld (i := i + 1) hLx (by omega) dL_law_829 ?_
  refine go_sload_n 0 dL_law_830 rfl rfl ?_
  refine go_iload_n 3 dL_law_831 rfl rfl ?_
  refine go_iconst dL_law_832 ?_
  refine go_iadd dL_law_833 ?_
  refine go_sld (i := i + 2) hLx (by omega) dL_law_834 ?_
  obtain ⟨mc, ms, hf, hct⟩ : Pr l E 0 MX9_left MX10_left [vI (xs (i + 1).toNat).toInt, vI (xs (i + 2).toNat).toInt] k n G D := pr_left hJ (sc_b _) (sc_b _)
  refine go_callT (M := MX9_left) (κ := 0) (c := 0) (as := [vI (xs (i + 1).toNat).toInt, vI (xs (i + 2).toNat).toInt]) (rest := []) mv_L_98 (hJ.L.1 0 _ rfl) rfl (by decide) ⟨Nat.le_of_ble_eq_true rfl, Nat.le_of_ble_eq_true rfl⟩ hf rfl rfl (Nat.le_of_ble_eq_true rfl) dL_law_835 hct ?_
  rintro r G' D1 ⟨k', n', hkn, hkb, hL', hct2⟩
  refine ⟨k', n', hkn, ?_⟩
  refine go_aload_n 2 dL_law_838 rfl rfl ?_
  refine go_sload_n 0 dL_law_839 rfl rfl ?_
  refine go_iload_n 3 dL_law_840 rfl rfl ?_
  refine go_iconst dL_law_841 ?_
  refine go_iadd dL_law_842 ?_
  refine go_sld (i := i + 1) hLx (by omega) dL_law_843 ?_
  refine go_sload_n 0 dL_law_844 rfl rfl ?_
  refine go_iload_n 3 dL_law_845 rfl rfl ?_
  refine go_iconst dL_law_846 ?_
  refine go_iadd dL_law_847 ?_
  refine go_sld (i := i + 2) hLx (by omega) dL_law_848 ?_
  refine go_cv0 (M := MX10_left) (κ := 0) (c := 107) (as := [vI (xs (i + 1).toNat).toInt, vI (xs (i + 2).toNat).toInt]) (rest := [vI r]) mv_L_101 (hL'.1 107 _ rfl) rfl (by decide) ⟨Nat.le_of_ble_eq_true rfl, Nat.le_of_ble_eq_true rfl⟩ hkb rfl rfl (Nat.le_of_ble_eq_true rfl) dL_law_849 hct2 ?_
  rintro r' G'' D2 ⟨rfl, hJ2⟩
  exact go_sameI 1648 dL_law_852 (by decide) (nx _ _ _ _ hJ2)
theorem lc_19 (hJ : J k n G D) (hLx : Lx ≤ 3584) (hi : 0 ≤ i ∧ i + 7 ≤ Lx) (nx : ∀ k n G D, J k n G D → LG l E b Lx xs k n 1648 i [] G D) : LG l E b Lx xs k n 857 i [] G D := by
  refine go_aload_n 1 dL_law_857 rfl rfl ?_
  refine go_sload_n 0 dL_law_858 rfl rfl ?_
  refine go_iload_n 3 dL_law_859 rfl rfl ?_
  refine go_iconst dL_law_860 ?_
  refine go_iadd dL_law_861 ?_
  refine go_sld (i := i + 1) hLx (by omega) dL_law_862 ?_
  refine go_sload_n 0 dL_law_863 rfl rfl ?_
  refine go_iload_n 3 dL_law_864 rfl rfl ?_
  refine go_iconst dL_law_865 ?_
  refine go_iadd dL_law_866 ?_
  refine go_sld (i := i + 2) hLx (by omega) dL_law_867 ?_
  obtain ⟨mc, ms, hf, hct⟩ : Pr l E 0 MX9_round MX10_round [vI (xs (i + 1).toNat).toInt, vI (xs (i + 2).toNat).toInt] k n G D := pr_round hJ (sc_b _) (sc_b _)
  refine go_callT (M := MX9_round) (κ := 0) (c := 0) (as := [vI (xs (i + 1).toNat).toInt, vI (xs (i + 2).toNat).toInt]) (rest := []) mv_L_102 (hJ.L.1 0 _ rfl) rfl (by decide) ⟨Nat.le_of_ble_eq_true rfl, Nat.le_of_ble_eq_true rfl⟩ hf rfl rfl (Nat.le_of_ble_eq_true rfl) dL_law_868 hct ?_
  rintro r G' D1 ⟨k', n', hkn, hkb, hL', hct2⟩
  refine ⟨k', n', hkn, ?_⟩
  refine go_aload_n 2 dL_law_871 rfl rfl ?_
  refine go_sload_n 0 dL_law_872 rfl rfl ?_
  refine go_iload_n 3 dL_law_873 rfl rfl ?_
  refine go_iconst dL_law_874 ?_
  refine go_iadd dL_law_875 ?_
  refine go_sld (i := i + 1) hLx (by omega) dL_law_876 ?_
  refine go_sload_n 0 dL_law_877 rfl rfl ?_
  refine go_iload_n 3 dL_law_878 rfl rfl ?_
  refine go_iconst dL_law_879 ?_
  refine go_iadd dL_law_880 ?_
  refine go_sld (i := i + 2) hLx (by omega) dL_law_881 ?_
  refine go_cv0 (M := MX10_round) (κ := 0) (c := 107) (as := [vI (xs (i + 1).toNat).toInt, vI (xs (i + 2).toNat).toInt]) (rest := [vI r]) mv_L_105 (hL'.1 107 _ rfl) rfl (by decide) ⟨Nat.le_of_ble_eq_true rfl, Nat.le_of_ble_eq_true rfl⟩ hkb rfl rfl (Nat.le_of_ble_eq_true rfl) dL_law_882 hct2 ?_
  rintro r' G'' D2 ⟨rfl, hJ2⟩
  exact go_sameI 1648 dL_law_885 (by decide) (nx _ _ _ _ hJ2)
theorem lc_20 (hJ : J k n G D) (hLx : Lx ≤ 3584) (hi : 0 ≤ i ∧ i + 7 ≤ Lx) (nx : ∀ k n G D, J k n G D → LG l E b Lx xs k n 1648 i [] G D) : LG l E b Lx xs k n 890 i [] G D := by
  refine go_aload_n 1 dL_law_890 rfl rfl ?_
  refine go_sload_n 0 dL_law_891 rfl rfl ?_
  refine go_iload_n 3 dL_law_892 rfl rfl ?_
  refine go_iconst dL_law_893 ?_
  refine go_iadd dL_law_894 ?_
  refine go_sld (i := i + 1) hLx (by omega) dL_law_895 ?_
  refine go_sload_n 0 dL_law_896 rfl rfl ?_
  refine go_iload_n 3 dL_law_897 rfl rfl ?_
  refine go_iconst dL_law_898 ?_
  refine go_iadd dL_law_899 ?_
  refine go_sld (i := i + 2) hLx (by omega) dL_law_900 ?_
  refine go_sload_n 0 dL_law_901 rfl rfl ?_
  refine go_iload_n 3 dL_law_902 rfl rfl ?_
  refine go_iconst dL_law_903 ?_
  refine go_iadd dL_law_904 ?_
  refine go_sld (i := i + 3) hLx (by omega) dL_law_905 ?_
  obtain ⟨mc, ms, hf, hct⟩ : Pr l E 0 MX9_net MX10_net [vI (xs (i + 1).toNat).toInt, vI (xs (i + 2).toNat).toInt, vI (xs (i + 3).toNat).toInt] k n G D := pr_net hJ (sc_b _) (sc_b _) (sc_b _)
  refine go_callT (M := MX9_net) (κ := 0) (c := 0) (as := [vI (xs (i + 1).toNat).toInt, vI (xs (i + 2).toNat).toInt, vI (xs (i + 3).toNat).toInt]) (rest := []) mv_L_106 (hJ.L.1 0 _ rfl) rfl (by decide) ⟨Nat.le_of_ble_eq_true rfl, Nat.le_of_ble_eq_true rfl⟩ hf rfl rfl (Nat.le_of_ble_eq_true rfl) dL_law_906 hct ?_
  rintro r G' D1 ⟨k', n', hkn, hkb, hL', hct2⟩
  refine ⟨k', n', hkn, ?_⟩
  refine go_aload_n 2 dL_law_909 rfl rfl ?_
  refine go_sload_n 0 dL_law_910 rfl rfl ?_
  refine go_iload_n 3 dL_law_911 rfl rfl ?_
  refine go_iconst dL_law_912 ?_
  refine go_iadd dL_law_913 ?_
  refine go_sld (i := i + 1) hLx (by omega) dL_law_914 ?_
  refine go_sload_n 0 dL_law_915 rfl rfl ?_
  refine go_iload_n 3 dL_law_916 rfl rfl ?_
  refine go_iconst dL_law_917 ?_
  refine go_iadd dL_law_918 ?_
  refine go_sld (i := i + 2) hLx (by omega) dL_law_919 ?_
  refine go_sload_n 0 dL_law_920 rfl rfl ?_
  refine go_iload_n 3 dL_law_921 rfl rfl ?_
  refine go_iconst dL_law_922 ?_
  refine go_iadd dL_law_923 ?_
  refine go_sld (i := i + 3) hLx (by omega) dL_law_924 ?_
  refine go_cv0 (M := MX10_net) (κ := 0) (c := 107) (as := [vI (xs (i + 1).toNat).toInt, vI (xs (i + 2).toNat).toInt, vI (xs (i + 3).toNat).toInt]) (rest := [vI r]) mv_L_110 (hL'.1 107 _ rfl) rfl (by decide) ⟨Nat.le_of_ble_eq_true rfl, Nat.le_of_ble_eq_true rfl⟩ hkb rfl rfl (Nat.le_of_ble_eq_true rfl) dL_law_925 hct2 ?_
  rintro r' G'' D2 ⟨rfl, hJ2⟩
  exact go_sameI 1648 dL_law_928 (by decide) (nx _ _ _ _ hJ2)
theorem lc_21 (hJ : J k n G D) (hLx : Lx ≤ 3584) (hi : 0 ≤ i ∧ i + 7 ≤ Lx) (nx : ∀ k n G D, J k n G D → LG l E b Lx xs k n 1648 i [] G D) : LG l E b Lx xs k n 933 i [] G D := by
  refine go_aload_n 1 dL_law_933 rfl rfl ?_
  refine go_sload_n 0 dL_law_934 rfl rfl ?_
  refine go_iload_n 3 dL_law_935 rfl rfl ?_
  refine go_iconst dL_law_936 ?_
  refine go_iadd dL_law_937 ?_
  refine go_sld (i := i + 1) hLx (by omega) dL_law_938 ?_
  refine go_sload_n 0 dL_law_939 rfl rfl ?_
  refine go_iload_n 3 dL_law_940 rfl rfl ?_
  refine go_iconst dL_law_941 ?_
  refine go_iadd dL_law_942 ?_
  refine go_sld (i := i + 2) hLx (by omega) dL_law_943 ?_
  refine go_sload_n 0 dL_law_944 rfl rfl ?_
  refine go_iload_n 3 dL_law_945 rfl rfl ?_
  refine go_iconst dL_law_946 ?_
  refine go_iadd dL_law_947 ?_
  refine go_sld (i := i + 3) hLx (by omega) dL_law_948 ?_
  obtain ⟨mc, ms, hf, hct⟩ : Pr l E 0 MX9_odds MX10_odds [vI (xs (i + 1).toNat).toInt, vI (xs (i + 2).toNat).toInt, vI (xs (i + 3).toNat).toInt] k n G D := pr_odds hJ (sc_b _) (sc_b _) (sc_b _)
  refine go_callT (M := MX9_odds) (κ := 0) (c := 0) (as := [vI (xs (i + 1).toNat).toInt, vI (xs (i + 2).toNat).toInt, vI (xs (i + 3).toNat).toInt]) (rest := []) mv_L_111 (hJ.L.1 0 _ rfl) rfl (by decide) ⟨Nat.le_of_ble_eq_true rfl, Nat.le_of_ble_eq_true rfl⟩ hf rfl rfl (Nat.le_of_ble_eq_true rfl) dL_law_949 hct ?_
  rintro r G' D1 ⟨k', n', hkn, hkb, hL', hct2⟩
  refine ⟨k', n', hkn, ?_⟩
  refine go_aload_n 2 dL_law_952 rfl rfl ?_
  refine go_sload_n 0 dL_law_953 rfl rfl ?_
  refine go_iload_n 3 dL_law_954 rfl rfl ?_
  refine go_iconst dL_law_955 ?_
  refine go_iadd dL_law_956 ?_
  refine go_sld (i := i + 1) hLx (by omega) dL_law_957 ?_
  refine go_sload_n 0 dL_law_958 rfl rfl ?_
  refine go_iload_n 3 dL_law_959 rfl rfl ?_
  refine go_iconst dL_law_960 ?_
  refine go_iadd dL_law_961 ?_
  refine go_sld (i := i + 2) hLx (by omega) dL_law_962 ?_
  refine go_sload_n 0 dL_law_963 rfl rfl ?_
  refine go_iload_n 3 dL_law_964 rfl rfl ?_
  refine go_iconst dL_law_965 ?_
  refine go_iadd dL_law_966 ?_
  refine go_sld (i := i + 3) hLx (by omega) dL_law_967 ?_
  refine go_cv0 (M := MX10_odds) (κ := 0) (c := 107) (as := [vI (xs (i + 1).toNat).toInt, vI (xs (i + 2).toNat).toInt, vI (xs (i + 3).toNat).toInt]) (rest := [vI r]) mv_L_114 (hL'.1 107 _ rfl) rfl (by decide) ⟨Nat.le_of_ble_eq_true rfl, Nat.le_of_ble_eq_true rfl⟩ hkb rfl rfl (Nat.le_of_ble_eq_true rfl) dL_law_968 hct2 ?_
  rintro r' G'' D2 ⟨rfl, hJ2⟩
  exact go_sameI 1648 dL_law_971 (by decide) (nx _ _ _ _ hJ2)
theorem lc_22 (hJ : J k n G D) (hLx : Lx ≤ 3584) (hi : 0 ≤ i ∧ i + 7 ≤ Lx) (nx : ∀ k n G D, J k n G D → LG l E b Lx xs k n 1648 i [] G D) : LG l E b Lx xs k n 976 i [] G D := by
  refine go_aload_n 1 dL_law_976 rfl rfl ?_
  refine go_sload_n 0 dL_law_977 rfl rfl ?_
  refine go_iload_n 3 dL_law_978 rfl rfl ?_
  refine go_iconst dL_law_979 ?_
  refine go_iadd dL_law_980 ?_
  refine go_sld (i := i + 1) hLx (by omega) dL_law_981 ?_
  refine go_sload_n 0 dL_law_982 rfl rfl ?_
  refine go_iload_n 3 dL_law_983 rfl rfl ?_
  refine go_iconst dL_law_984 ?_
  refine go_iadd dL_law_985 ?_
  refine go_sld (i := i + 2) hLx (by omega) dL_law_986 ?_
  obtain ⟨mc, ms, hf, hct⟩ : Pr l E 0 MX9_hungry MX10_hungry [vI (xs (i + 1).toNat).toInt, vI (xs (i + 2).toNat).toInt] k n G D := pr_hungry hJ (sc_b _) (sc_b _)
  refine go_callT (M := MX9_hungry) (κ := 0) (c := 0) (as := [vI (xs (i + 1).toNat).toInt, vI (xs (i + 2).toNat).toInt]) (rest := []) mv_L_115 (hJ.L.1 0 _ rfl) rfl (by decide) ⟨Nat.le_of_ble_eq_true rfl, Nat.le_of_ble_eq_true rfl⟩ hf rfl rfl (Nat.le_of_ble_eq_true rfl) dL_law_987 hct ?_
  rintro r G' D1 ⟨k', n', hkn, hkb, hL', hct2⟩
  refine ⟨k', n', hkn, ?_⟩
  refine go_aload_n 2 dL_law_990 rfl rfl ?_
  refine go_sload_n 0 dL_law_991 rfl rfl ?_
  refine go_iload_n 3 dL_law_992 rfl rfl ?_
  refine go_iconst dL_law_993 ?_
  refine go_iadd dL_law_994 ?_
  refine go_sld (i := i + 1) hLx (by omega) dL_law_995 ?_
  refine go_sload_n 0 dL_law_996 rfl rfl ?_
  refine go_iload_n 3 dL_law_997 rfl rfl ?_
  refine go_iconst dL_law_998 ?_
  refine go_iadd dL_law_999 ?_
  refine go_sld (i := i + 2) hLx (by omega) dL_law_1000 ?_
  refine go_cv0 (M := MX10_hungry) (κ := 0) (c := 107) (as := [vI (xs (i + 1).toNat).toInt, vI (xs (i + 2).toNat).toInt]) (rest := [vI r]) mv_L_118 (hL'.1 107 _ rfl) rfl (by decide) ⟨Nat.le_of_ble_eq_true rfl, Nat.le_of_ble_eq_true rfl⟩ hkb rfl rfl (Nat.le_of_ble_eq_true rfl) dL_law_1001 hct2 ?_
  rintro r' G'' D2 ⟨rfl, hJ2⟩
  exact go_sameI 1648 dL_law_1004 (by decide) (nx _ _ _ _ hJ2)
theorem lc_23 (hJ : J k n G D) (hLx : Lx ≤ 3584) (hi : 0 ≤ i ∧ i + 7 ≤ Lx) (nx : ∀ k n G D, J k n G D → LG l E b Lx xs k n 1648 i [] G D) : LG l E b Lx xs k n 1009 i [] G D := by
  refine go_aload_n 1 dL_law_1009 rfl rfl ?_
  refine go_sload_n 0 dL_law_1010 rfl rfl ?_
  refine go_iload_n 3 dL_law_1011 rfl rfl ?_
  refine go_iconst dL_law_1012 ?_
  refine go_iadd dL_law_1013 ?_
  refine go_sld (i := i + 1) hLx (by omega) dL_law_1014 ?_
  refine go_sload_n 0 dL_law_1015 rfl rfl ?_
  refine go_iload_n 3 dL_law_1016 rfl rfl ?_
  refine go_iconst dL_law_1017 ?_
  refine go_iadd dL_law_1018 ?_
  refine go_sld (i := i + 2) hLx (by omega) dL_law_1019 ?_
  obtain ⟨mc, ms, hf, hct⟩ : Pr l E 0 MX9_worth MX10_worth [vI (xs (i + 1).toNat).toInt, vI (xs (i + 2).toNat).toInt] k n G D := pr_worth hJ (sc_b _) (sc_b _)
  refine go_callT (M := MX9_worth) (κ := 0) (c := 0) (as := [vI (xs (i + 1).toNat).toInt, vI (xs (i + 2).toNat).toInt]) (rest := []) mv_L_119 (hJ.L.1 0 _ rfl) rfl (by decide) ⟨Nat.le_of_ble_eq_true rfl, Nat.le_of_ble_eq_true rfl⟩ hf rfl rfl (Nat.le_of_ble_eq_true rfl) dL_law_1020 hct ?_
  rintro r G' D1 ⟨k', n', hkn, hkb, hL', hct2⟩
  refine ⟨k', n', hkn, ?_⟩
  refine go_aload_n 2 dL_law_1023 rfl rfl ?_
  refine go_sload_n 0 dL_law_1024 rfl rfl ?_
  refine go_iload_n 3 dL_law_1025 rfl rfl ?_
  refine go_iconst dL_law_1026 ?_
  refine go_iadd dL_law_1027 ?_
  refine go_sld (i := i + 1) hLx (by omega) dL_law_1028 ?_
  refine go_sload_n 0 dL_law_1029 rfl rfl ?_
  refine go_iload_n 3 dL_law_1030 rfl rfl ?_
  refine go_iconst dL_law_1031 ?_
  refine go_iadd dL_law_1032 ?_
  refine go_sld (i := i + 2) hLx (by omega) dL_law_1033 ?_
  refine go_cv0 (M := MX10_worth) (κ := 0) (c := 107) (as := [vI (xs (i + 1).toNat).toInt, vI (xs (i + 2).toNat).toInt]) (rest := [vI r]) mv_L_122 (hL'.1 107 _ rfl) rfl (by decide) ⟨Nat.le_of_ble_eq_true rfl, Nat.le_of_ble_eq_true rfl⟩ hkb rfl rfl (Nat.le_of_ble_eq_true rfl) dL_law_1034 hct2 ?_
  rintro r' G'' D2 ⟨rfl, hJ2⟩
  exact go_sameI 1648 dL_law_1037 (by decide) (nx _ _ _ _ hJ2)
theorem lc_24 (hJ : J k n G D) (hLx : Lx ≤ 3584) (hi : 0 ≤ i ∧ i + 7 ≤ Lx) (nx : ∀ k n G D, J k n G D → LG l E b Lx xs k n 1648 i [] G D) : LG l E b Lx xs k n 1042 i [] G D := by
  refine go_aload_n 1 dL_law_1042 rfl rfl ?_
  refine go_sload_n 0 dL_law_1043 rfl rfl ?_
  refine go_iload_n 3 dL_law_1044 rfl rfl ?_
  refine go_iconst dL_law_1045 ?_
  refine go_iadd dL_law_1046 ?_
  refine go_sld (i := i + 1) hLx (by omega) dL_law_1047 ?_
  refine go_sload_n 0 dL_law_1048 rfl rfl ?_
  refine go_iload_n 3 dL_law_1049 rfl rfl ?_
  refine go_iconst dL_law_1050 ?_
  refine go_iadd dL_law_1051 ?_
  refine go_sld (i := i + 2) hLx (by omega) dL_law_1052 ?_
  obtain ⟨mc, ms, hf, hct⟩ : Pr l E 0 MX9_best MX10_best [vI (xs (i + 1).toNat).toInt, vI (xs (i + 2).toNat).toInt] k n G D := pr_best hJ (sc_b _) (sc_b _)
  refine go_callT (M := MX9_best) (κ := 0) (c := 0) (as := [vI (xs (i + 1).toNat).toInt, vI (xs (i + 2).toNat).toInt]) (rest := []) mv_L_123 (hJ.L.1 0 _ rfl) rfl (by decide) ⟨Nat.le_of_ble_eq_true rfl, Nat.le_of_ble_eq_true rfl⟩ hf rfl rfl (Nat.le_of_ble_eq_true rfl) dL_law_1053 hct ?_
  rintro r G' D1 ⟨k', n', hkn, hkb, hL', hct2⟩
  refine ⟨k', n', hkn, ?_⟩
  refine go_aload_n 2 dL_law_1056 rfl rfl ?_
  refine go_sload_n 0 dL_law_1057 rfl rfl ?_
  refine go_iload_n 3 dL_law_1058 rfl rfl ?_
  refine go_iconst dL_law_1059 ?_
  refine go_iadd dL_law_1060 ?_
  refine go_sld (i := i + 1) hLx (by omega) dL_law_1061 ?_
  refine go_sload_n 0 dL_law_1062 rfl rfl ?_
  refine go_iload_n 3 dL_law_1063 rfl rfl ?_
  refine go_iconst dL_law_1064 ?_
  refine go_iadd dL_law_1065 ?_
  refine go_sld (i := i + 2) hLx (by omega) dL_law_1066 ?_
  refine go_cv0 (M := MX10_best) (κ := 0) (c := 107) (as := [vI (xs (i + 1).toNat).toInt, vI (xs (i + 2).toNat).toInt]) (rest := [vI r]) mv_L_126 (hL'.1 107 _ rfl) rfl (by decide) ⟨Nat.le_of_ble_eq_true rfl, Nat.le_of_ble_eq_true rfl⟩ hkb rfl rfl (Nat.le_of_ble_eq_true rfl) dL_law_1067 hct2 ?_
  rintro r' G'' D2 ⟨rfl, hJ2⟩
  exact go_sameI 1648 dL_law_1070 (by decide) (nx _ _ _ _ hJ2)
theorem lc_25 (hJ : J k n G D) (hLx : Lx ≤ 3584) (hi : 0 ≤ i ∧ i + 7 ≤ Lx) (nx : ∀ k n G D, J k n G D → LG l E b Lx xs k n 1648 i [] G D) : LG l E b Lx xs k n 1075 i [] G D := by
  refine go_aload_n 1 dL_law_1075 rfl rfl ?_
  refine go_sload_n 0 dL_law_1076 rfl rfl ?_
  refine go_iload_n 3 dL_law_1077 rfl rfl ?_
  refine go_iconst dL_law_1078 ?_
  refine go_iadd dL_law_1079 ?_
  refine go_sld (i := i + 1) hLx (by omega) dL_law_1080 ?_
  obtain ⟨mc, ms, hf, hct⟩ : Pr l E 0 MX9_climb MX10_climb [vI (xs (i + 1).toNat).toInt] k n G D := pr_climb hJ (sc_b _)
  refine go_callT (M := MX9_climb) (κ := 0) (c := 0) (as := [vI (xs (i + 1).toNat).toInt]) (rest := []) mv_L_127 (hJ.L.1 0 _ rfl) rfl (by decide) ⟨Nat.le_of_ble_eq_true rfl, Nat.le_of_ble_eq_true rfl⟩ hf rfl rfl (Nat.le_of_ble_eq_true rfl) dL_law_1081 hct ?_
  rintro r G' D1 ⟨k', n', hkn, hkb, hL', hct2⟩
  refine ⟨k', n', hkn, ?_⟩
  refine go_aload_n 2 dL_law_1084 rfl rfl ?_
  refine go_sload_n 0 dL_law_1085 rfl rfl ?_
  refine go_iload_n 3 dL_law_1086 rfl rfl ?_
  refine go_iconst dL_law_1087 ?_
  refine go_iadd dL_law_1088 ?_
  refine go_sld (i := i + 1) hLx (by omega) dL_law_1089 ?_
  refine go_cv0 (M := MX10_climb) (κ := 0) (c := 107) (as := [vI (xs (i + 1).toNat).toInt]) (rest := [vI r]) mv_L_130 (hL'.1 107 _ rfl) rfl (by decide) ⟨Nat.le_of_ble_eq_true rfl, Nat.le_of_ble_eq_true rfl⟩ hkb rfl rfl (Nat.le_of_ble_eq_true rfl) dL_law_1090 hct2 ?_
  rintro r' G'' D2 ⟨rfl, hJ2⟩
  exact go_sameI 1648 dL_law_1093 (by decide) (nx _ _ _ _ hJ2)
theorem lc_26 (hJ : J k n G D) (hLx : Lx ≤ 3584) (hi : 0 ≤ i ∧ i + 7 ≤ Lx) (nx : ∀ k n G D, J k n G D → LG l E b Lx xs k n 1648 i [] G D) : LG l E b Lx xs k n 1098 i [] G D := by
  refine go_aload_n 1 dL_law_1098 rfl rfl ?_
  obtain ⟨mc, ms, hf, hct⟩ : Pr l E 0 MX9_climbed MX10_climbed [] k n G D := pr_climbed hJ
  refine go_callT (M := MX9_climbed) (κ := 0) (c := 0) (as := []) (rest := []) mv_L_131 (hJ.L.1 0 _ rfl) rfl (by decide) ⟨Nat.le_of_ble_eq_true rfl, Nat.le_of_ble_eq_true rfl⟩ hf rfl rfl (Nat.le_of_ble_eq_true rfl) dL_law_1099 hct ?_
  rintro r G' D1 ⟨k', n', hkn, hkb, hL', hct2⟩
  refine ⟨k', n', hkn, ?_⟩
  refine go_aload_n 2 dL_law_1102 rfl rfl ?_
  refine go_cv0 (M := MX10_climbed) (κ := 0) (c := 107) (as := []) (rest := [vI r]) mv_L_134 (hL'.1 107 _ rfl) rfl (by decide) ⟨Nat.le_of_ble_eq_true rfl, Nat.le_of_ble_eq_true rfl⟩ hkb rfl rfl (Nat.le_of_ble_eq_true rfl) dL_law_1103 hct2 ?_
  rintro r' G'' D2 ⟨rfl, hJ2⟩
  exact go_sameI 1648 dL_law_1106 (by decide) (nx _ _ _ _ hJ2)
theorem lc_27 (hJ : J k n G D) (hLx : Lx ≤ 3584) (hi : 0 ≤ i ∧ i + 7 ≤ Lx) (nx : ∀ k n G D, J k n G D → LG l E b Lx xs k n 1648 i [] G D) : LG l E b Lx xs k n 1111 i [] G D := by
  refine go_aload_n 1 dL_law_1111 rfl rfl ?_
  refine go_sload_n 0 dL_law_1112 rfl rfl ?_
  refine go_iload_n 3 dL_law_1113 rfl rfl ?_
  refine go_iconst dL_law_1114 ?_
  refine go_iadd dL_law_1115 ?_
  refine go_sld (i := i + 1) hLx (by omega) dL_law_1116 ?_
  refine go_sload_n 0 dL_law_1117 rfl rfl ?_
  refine go_iload_n 3 dL_law_1118 rfl rfl ?_
  refine go_iconst dL_law_1119 ?_
  refine go_iadd dL_law_1120 ?_
  refine go_sld (i := i + 2) hLx (by omega) dL_law_1121 ?_
  obtain ⟨mc, ms, hf, hct⟩ : Pr l E 0 MX9_edge MX10_edge [vI (xs (i + 1).toNat).toInt, vI (xs (i + 2).toNat).toInt] k n G D := pr_edge hJ (sc_b _) (sc_b _)
  refine go_callT (M := MX9_edge) (κ := 0) (c := 0) (as := [vI (xs (i + 1).toNat).toInt, vI (xs (i + 2).toNat).toInt]) (rest := []) mv_L_135 (hJ.L.1 0 _ rfl) rfl (by decide) ⟨Nat.le_of_ble_eq_true rfl, Nat.le_of_ble_eq_true rfl⟩ hf rfl rfl (Nat.le_of_ble_eq_true rfl) dL_law_1122 hct ?_
  rintro r G' D1 ⟨k', n', hkn, hkb, hL', hct2⟩
  refine ⟨k', n', hkn, ?_⟩
  refine go_aload_n 2 dL_law_1125 rfl rfl ?_
  refine go_sload_n 0 dL_law_1126 rfl rfl ?_
  refine go_iload_n 3 dL_law_1127 rfl rfl ?_
  refine go_iconst dL_law_1128 ?_
  refine go_iadd dL_law_1129 ?_
  refine go_sld (i := i + 1) hLx (by omega) dL_law_1130 ?_
  refine go_sload_n 0 dL_law_1131 rfl rfl ?_
  refine go_iload_n 3 dL_law_1132 rfl rfl ?_
  refine go_iconst dL_law_1133 ?_
  refine go_iadd dL_law_1134 ?_
  refine go_sld (i := i + 2) hLx (by omega) dL_law_1135 ?_
  refine go_cv0 (M := MX10_edge) (κ := 0) (c := 107) (as := [vI (xs (i + 1).toNat).toInt, vI (xs (i + 2).toNat).toInt]) (rest := [vI r]) mv_L_138 (hL'.1 107 _ rfl) rfl (by decide) ⟨Nat.le_of_ble_eq_true rfl, Nat.le_of_ble_eq_true rfl⟩ hkb rfl rfl (Nat.le_of_ble_eq_true rfl) dL_law_1136 hct2 ?_
  rintro r' G'' D2 ⟨rfl, hJ2⟩
  exact go_sameI 1648 dL_law_1139 (by decide) (nx _ _ _ _ hJ2)
theorem lc_28 (hJ : J k n G D) (hLx : Lx ≤ 3584) (hi : 0 ≤ i ∧ i + 7 ≤ Lx) (nx : ∀ k n G D, J k n G D → LG l E b Lx xs k n 1648 i [] G D) : LG l E b Lx xs k n 1144 i [] G D := by
  refine go_aload_n 1 dL_law_1144 rfl rfl ?_
  refine go_sload_n 0 dL_law_1145 rfl rfl ?_
  refine go_iload_n 3 dL_law_1146 rfl rfl ?_
  refine go_iconst dL_law_1147 ?_
  refine go_iadd dL_law_1148 ?_
  refine go_sld (i := i + 1) hLx (by omega) dL_law_1149 ?_
  refine go_sload_n 0 dL_law_1150 rfl rfl ?_
  refine go_iload_n 3 dL_law_1151 rfl rfl ?_
  refine go_iconst dL_law_1152 ?_
  refine go_iadd dL_law_1153 ?_
  refine go_sld (i := i + 2) hLx (by omega) dL_law_1154 ?_
  refine go_sload_n 0 dL_law_1155 rfl rfl ?_
  refine go_iload_n 3 dL_law_1156 rfl rfl ?_
  refine go_iconst dL_law_1157 ?_
  refine go_iadd dL_law_1158 ?_
  refine go_sld (i := i + 3) hLx (by omega) dL_law_1159 ?_
  refine go_sload_n 0 dL_law_1160 rfl rfl ?_
  refine go_iload_n 3 dL_law_1161 rfl rfl ?_
  refine go_iconst dL_law_1162 ?_
  refine go_iadd dL_law_1163 ?_
  refine go_sld (i := i + 4) hLx (by omega) dL_law_1164 ?_
  obtain ⟨mc, ms, hf, hct⟩ : Pr l E 0 MX9_change MX10_change [vI (xs (i + 1).toNat).toInt, vI (xs (i + 2).toNat).toInt, vI (xs (i + 3).toNat).toInt, vI (xs (i + 4).toNat).toInt] k n G D := pr_change hJ (sc_b _) (sc_b _) (sc_b _) (sc_b _)
  refine go_callT (M := MX9_change) (κ := 0) (c := 0) (as := [vI (xs (i + 1).toNat).toInt, vI (xs (i + 2).toNat).toInt, vI (xs (i + 3).toNat).toInt, vI (xs (i + 4).toNat).toInt]) (rest := []) mv_L_139 (hJ.L.1 0 _ rfl) rfl (by decide) ⟨Nat.le_of_ble_eq_true rfl, Nat.le_of_ble_eq_true rfl⟩ hf rfl rfl (Nat.le_of_ble_eq_true rfl) dL_law_1165 hct ?_
  rintro r G' D1 ⟨k', n', hkn, hkb, hL', hct2⟩
  refine ⟨k', n', hkn, ?_⟩
  refine go_aload_n 2 dL_law_1168 rfl rfl ?_
  refine go_sload_n 0 dL_law_1169 rfl rfl ?_
  refine go_iload_n 3 dL_law_1170 rfl rfl ?_
  refine go_iconst dL_law_1171 ?_
  refine go_iadd dL_law_1172 ?_
  refine go_sld (i := i + 1) hLx (by omega) dL_law_1173 ?_
  refine go_sload_n 0 dL_law_1174 rfl rfl ?_
  refine go_iload_n 3 dL_law_1175 rfl rfl ?_
  refine go_iconst dL_law_1176 ?_
  refine go_iadd dL_law_1177 ?_
  refine go_sld (i := i + 2) hLx (by omega) dL_law_1178 ?_
  refine go_sload_n 0 dL_law_1179 rfl rfl ?_
  refine go_iload_n 3 dL_law_1180 rfl rfl ?_
  refine go_iconst dL_law_1181 ?_
  refine go_iadd dL_law_1182 ?_
  refine go_sld (i := i + 3) hLx (by omega) dL_law_1183 ?_
  refine go_sload_n 0 dL_law_1184 rfl rfl ?_
  refine go_iload_n 3 dL_law_1185 rfl rfl ?_
  refine go_iconst dL_law_1186 ?_
  refine go_iadd dL_law_1187 ?_
  refine go_sld (i := i + 4) hLx (by omega) dL_law_1188 ?_
  refine go_cv0 (M := MX10_change) (κ := 0) (c := 107) (as := [vI (xs (i + 1).toNat).toInt, vI (xs (i + 2).toNat).toInt, vI (xs (i + 3).toNat).toInt, vI (xs (i + 4).toNat).toInt]) (rest := [vI r]) mv_L_143 (hL'.1 107 _ rfl) rfl (by decide) ⟨Nat.le_of_ble_eq_true rfl, Nat.le_of_ble_eq_true rfl⟩ hkb rfl rfl (Nat.le_of_ble_eq_true rfl) dL_law_1189 hct2 ?_
  rintro r' G'' D2 ⟨rfl, hJ2⟩
  exact go_sameI 1648 dL_law_1192 (by decide) (nx _ _ _ _ hJ2)
theorem lc_29 (hJ : J k n G D) (hLx : Lx ≤ 3584) (hi : 0 ≤ i ∧ i + 7 ≤ Lx) (nx : ∀ k n G D, J k n G D → LG l E b Lx xs k n 1648 i [] G D) : LG l E b Lx xs k n 1197 i [] G D := by
  refine go_aload_n 1 dL_law_1197 rfl rfl ?_
  refine go_sload_n 0 dL_law_1198 rfl rfl ?_
  refine go_iload_n 3 dL_law_1199 rfl rfl ?_
  refine go_iconst dL_law_1200 ?_
  refine go_iadd dL_law_1201 ?_
  refine go_sld (i := i + 1) hLx (by omega) dL_law_1202 ?_
  refine go_sload_n 0 dL_law_1203 rfl rfl ?_
  refine go_iload_n 3 dL_law_1204 rfl rfl ?_
  refine go_iconst dL_law_1205 ?_
  refine go_iadd dL_law_1206 ?_
  refine go_sld (i := i + 2) hLx (by omega) dL_law_1207 ?_
  refine go_sload_n 0 dL_law_1208 rfl rfl ?_
  refine go_iload_n 3 dL_law_1209 rfl rfl ?_
  refine go_iconst dL_law_1210 ?_
  refine go_iadd dL_law_1211 ?_
  refine go_sld (i := i + 3) hLx (by omega) dL_law_1212 ?_
  refine go_sload_n 0 dL_law_1213 rfl rfl ?_
  refine go_iload_n 3 dL_law_1214 rfl rfl ?_
  refine go_iconst dL_law_1215 ?_
  refine go_iadd dL_law_1216 ?_
  refine go_sld (i := i + 4) hLx (by omega) dL_law_1217 ?_
  refine go_sload_n 0 dL_law_1218 rfl rfl ?_
  refine go_iload_n 3 dL_law_1219 rfl rfl ?_
  refine go_iconst dL_law_1220 ?_
  refine go_iadd dL_law_1221 ?_
  refine go_sld (i := i + 5) hLx (by omega) dL_law_1222 ?_
  refine go_sload_n 0 dL_law_1223 rfl rfl ?_
  refine go_iload_n 3 dL_law_1224 rfl rfl ?_
  refine go_bipush dL_law_1225 (by decide) ?_
  refine go_iadd dL_law_1227 ?_
  refine go_sld (i := i + 6) hLx (by omega) dL_law_1228 ?_
  obtain ⟨mc, ms, hf, hct⟩ : Pr l E 0 MX9_beside MX10_beside [vI (xs (i + 1).toNat).toInt, vI (xs (i + 2).toNat).toInt, vI (xs (i + 3).toNat).toInt, vI (xs (i + 4).toNat).toInt, vI (xs (i + 5).toNat).toInt, vI (xs (i + 6).toNat).toInt] k n G D := pr_beside hJ (sc_b _) (sc_b _) (sc_b _) (sc_b _) (sc_b _) (sc_b _)
  refine go_callT (M := MX9_beside) (κ := 0) (c := 0) (as := [vI (xs (i + 1).toNat).toInt, vI (xs (i + 2).toNat).toInt, vI (xs (i + 3).toNat).toInt, vI (xs (i + 4).toNat).toInt, vI (xs (i + 5).toNat).toInt, vI (xs (i + 6).toNat).toInt]) (rest := []) mv_L_144 (hJ.L.1 0 _ rfl) rfl (by decide) ⟨Nat.le_of_ble_eq_true rfl, Nat.le_of_ble_eq_true rfl⟩ hf rfl rfl (Nat.le_of_ble_eq_true rfl) dL_law_1229 hct ?_
  rintro r G' D1 ⟨k', n', hkn, hkb, hL', hct2⟩
  refine ⟨k', n', hkn, ?_⟩
  refine go_aload_n 2 dL_law_1232 rfl rfl ?_
  refine go_sload_n 0 dL_law_1233 rfl rfl ?_
  refine go_iload_n 3 dL_law_1234 rfl rfl ?_
  refine go_iconst dL_law_1235 ?_
  refine go_iadd dL_law_1236 ?_
  refine go_sld (i := i + 1) hLx (by omega) dL_law_1237 ?_
  refine go_sload_n 0 dL_law_1238 rfl rfl ?_
  refine go_iload_n 3 dL_law_1239 rfl rfl ?_
  refine go_iconst dL_law_1240 ?_
  refine go_iadd dL_law_1241 ?_
  refine go_sld (i := i + 2) hLx (by omega) dL_law_1242 ?_
  refine go_sload_n 0 dL_law_1243 rfl rfl ?_
  refine go_iload_n 3 dL_law_1244 rfl rfl ?_
  refine go_iconst dL_law_1245 ?_
  refine go_iadd dL_law_1246 ?_
  refine go_sld (i := i + 3) hLx (by omega) dL_law_1247 ?_
  refine go_sload_n 0 dL_law_1248 rfl rfl ?_
  refine go_iload_n 3 dL_law_1249 rfl rfl ?_
  refine go_iconst dL_law_1250 ?_
  refine go_iadd dL_law_1251 ?_
  refine go_sld (i := i + 4) hLx (by omega) dL_law_1252 ?_
  refine go_sload_n 0 dL_law_1253 rfl rfl ?_
  refine go_iload_n 3 dL_law_1254 rfl rfl ?_
  refine go_iconst dL_law_1255 ?_
  refine go_iadd dL_law_1256 ?_
  refine go_sld (i := i + 5) hLx (by omega) dL_law_1257 ?_
  refine go_sload_n 0 dL_law_1258 rfl rfl ?_
  refine go_iload_n 3 dL_law_1259 rfl rfl ?_
  refine go_bipush dL_law_1260 (by decide) ?_
  refine go_iadd dL_law_1262 ?_
  refine go_sld (i := i + 6) hLx (by omega) dL_law_1263 ?_
  refine go_cv0 (M := MX10_beside) (κ := 0) (c := 107) (as := [vI (xs (i + 1).toNat).toInt, vI (xs (i + 2).toNat).toInt, vI (xs (i + 3).toNat).toInt, vI (xs (i + 4).toNat).toInt, vI (xs (i + 5).toNat).toInt, vI (xs (i + 6).toNat).toInt]) (rest := [vI r]) mv_L_148 (hL'.1 107 _ rfl) rfl (by decide) ⟨Nat.le_of_ble_eq_true rfl, Nat.le_of_ble_eq_true rfl⟩ hkb rfl rfl (Nat.le_of_ble_eq_true rfl) dL_law_1264 hct2 ?_
  rintro r' G'' D2 ⟨rfl, hJ2⟩
  exact go_sameI 1648 dL_law_1267 (by decide) (nx _ _ _ _ hJ2)
theorem lc_30 (hJ : J k n G D) (hLx : Lx ≤ 3584) (hi : 0 ≤ i ∧ i + 7 ≤ Lx) (nx : ∀ k n G D, J k n G D → LG l E b Lx xs k n 1648 i [] G D) : LG l E b Lx xs k n 1272 i [] G D := by
  refine go_aload_n 1 dL_law_1272 rfl rfl ?_
  refine go_sload_n 0 dL_law_1273 rfl rfl ?_
  refine go_iload_n 3 dL_law_1274 rfl rfl ?_
  refine go_iconst dL_law_1275 ?_
  refine go_iadd dL_law_1276 ?_
  refine go_sld (i := i + 1) hLx (by omega) dL_law_1277 ?_
  refine go_sload_n 0 dL_law_1278 rfl rfl ?_
  refine go_iload_n 3 dL_law_1279 rfl rfl ?_
  refine go_iconst dL_law_1280 ?_
  refine go_iadd dL_law_1281 ?_
  refine go_sld (i := i + 2) hLx (by omega) dL_law_1282 ?_
  obtain ⟨mc, ms, hf, hct⟩ : Pr l E 0 MX9_swaps MX10_swaps [vI (xs (i + 1).toNat).toInt, vI (xs (i + 2).toNat).toInt] k n G D := pr_swaps hJ (sc_b _) (sc_b _)
  refine go_callT (M := MX9_swaps) (κ := 0) (c := 0) (as := [vI (xs (i + 1).toNat).toInt, vI (xs (i + 2).toNat).toInt]) (rest := []) mv_L_149 (hJ.L.1 0 _ rfl) rfl (by decide) ⟨Nat.le_of_ble_eq_true rfl, Nat.le_of_ble_eq_true rfl⟩ hf rfl rfl (Nat.le_of_ble_eq_true rfl) dL_law_1283 hct ?_
  rintro r G' D1 ⟨k', n', hkn, hkb, hL', hct2⟩
  refine ⟨k', n', hkn, ?_⟩
  refine go_aload_n 2 dL_law_1286 rfl rfl ?_
  refine go_sload_n 0 dL_law_1287 rfl rfl ?_
  refine go_iload_n 3 dL_law_1288 rfl rfl ?_
  refine go_iconst dL_law_1289 ?_
  refine go_iadd dL_law_1290 ?_
  refine go_sld (i := i + 1) hLx (by omega) dL_law_1291 ?_
  refine go_sload_n 0 dL_law_1292 rfl rfl ?_
  refine go_iload_n 3 dL_law_1293 rfl rfl ?_
  refine go_iconst dL_law_1294 ?_
  refine go_iadd dL_law_1295 ?_
  refine go_sld (i := i + 2) hLx (by omega) dL_law_1296 ?_
  refine go_cv0 (M := MX10_swaps) (κ := 0) (c := 107) (as := [vI (xs (i + 1).toNat).toInt, vI (xs (i + 2).toNat).toInt]) (rest := [vI r]) mv_L_152 (hL'.1 107 _ rfl) rfl (by decide) ⟨Nat.le_of_ble_eq_true rfl, Nat.le_of_ble_eq_true rfl⟩ hkb rfl rfl (Nat.le_of_ble_eq_true rfl) dL_law_1297 hct2 ?_
  rintro r' G'' D2 ⟨rfl, hJ2⟩
  exact go_sameI 1648 dL_law_1300 (by decide) (nx _ _ _ _ hJ2)
theorem lc_31 (hJ : J k n G D) (hLx : Lx ≤ 3584) (hi : 0 ≤ i ∧ i + 7 ≤ Lx) (nx : ∀ k n G D, J k n G D → LG l E b Lx xs k n 1648 i [] G D) : LG l E b Lx xs k n 1305 i [] G D := by
  refine go_aload_n 1 dL_law_1305 rfl rfl ?_
  refine go_sload_n 0 dL_law_1306 rfl rfl ?_
  refine go_iload_n 3 dL_law_1307 rfl rfl ?_
  refine go_iconst dL_law_1308 ?_
  refine go_iadd dL_law_1309 ?_
  refine go_sld (i := i + 1) hLx (by omega) dL_law_1310 ?_
  refine go_sload_n 0 dL_law_1311 rfl rfl ?_
  refine go_iload_n 3 dL_law_1312 rfl rfl ?_
  refine go_iconst dL_law_1313 ?_
  refine go_iadd dL_law_1314 ?_
  refine go_sld (i := i + 2) hLx (by omega) dL_law_1315 ?_
  refine go_sload_n 0 dL_law_1316 rfl rfl ?_
  refine go_iload_n 3 dL_law_1317 rfl rfl ?_
  refine go_iconst dL_law_1318 ?_
  refine go_iadd dL_law_1319 ?_
  refine go_sld (i := i + 3) hLx (by omega) dL_law_1320 ?_
  refine go_sload_n 0 dL_law_1321 rfl rfl ?_
  refine go_iload_n 3 dL_law_1322 rfl rfl ?_
  refine go_iconst dL_law_1323 ?_
  refine go_iadd dL_law_1324 ?_
  refine go_sld (i := i + 4) hLx (by omega) dL_law_1325 ?_
  obtain ⟨mc, ms, hf, hct⟩ : Pr l E 0 MX9_swap MX10_swap [vI (xs (i + 1).toNat).toInt, vI (xs (i + 2).toNat).toInt, vI (xs (i + 3).toNat).toInt, vI (xs (i + 4).toNat).toInt] k n G D := pr_swap hJ (sc_b _) (sc_b _) (sc_b _) (sc_b _)
  refine go_callT (M := MX9_swap) (κ := 0) (c := 0) (as := [vI (xs (i + 1).toNat).toInt, vI (xs (i + 2).toNat).toInt, vI (xs (i + 3).toNat).toInt, vI (xs (i + 4).toNat).toInt]) (rest := []) mv_L_153 (hJ.L.1 0 _ rfl) rfl (by decide) ⟨Nat.le_of_ble_eq_true rfl, Nat.le_of_ble_eq_true rfl⟩ hf rfl rfl (Nat.le_of_ble_eq_true rfl) dL_law_1326 hct ?_
  rintro r G' D1 ⟨k', n', hkn, hkb, hL', hct2⟩
  refine ⟨k', n', hkn, ?_⟩
  refine go_aload_n 2 dL_law_1329 rfl rfl ?_
  refine go_sload_n 0 dL_law_1330 rfl rfl ?_
  refine go_iload_n 3 dL_law_1331 rfl rfl ?_
  refine go_iconst dL_law_1332 ?_
  refine go_iadd dL_law_1333 ?_
  refine go_sld (i := i + 1) hLx (by omega) dL_law_1334 ?_
  refine go_sload_n 0 dL_law_1335 rfl rfl ?_
  refine go_iload_n 3 dL_law_1336 rfl rfl ?_
  refine go_iconst dL_law_1337 ?_
  refine go_iadd dL_law_1338 ?_
  refine go_sld (i := i + 2) hLx (by omega) dL_law_1339 ?_
  refine go_sload_n 0 dL_law_1340 rfl rfl ?_
  refine go_iload_n 3 dL_law_1341 rfl rfl ?_
  refine go_iconst dL_law_1342 ?_
  refine go_iadd dL_law_1343 ?_
  refine go_sld (i := i + 3) hLx (by omega) dL_law_1344 ?_
  refine go_sload_n 0 dL_law_1345 rfl rfl ?_
  refine go_iload_n 3 dL_law_1346 rfl rfl ?_
  refine go_iconst dL_law_1347 ?_
  refine go_iadd dL_law_1348 ?_
  refine go_sld (i := i + 4) hLx (by omega) dL_law_1349 ?_
  refine go_cv0 (M := MX10_swap) (κ := 0) (c := 107) (as := [vI (xs (i + 1).toNat).toInt, vI (xs (i + 2).toNat).toInt, vI (xs (i + 3).toNat).toInt, vI (xs (i + 4).toNat).toInt]) (rest := [vI r]) mv_L_156 (hL'.1 107 _ rfl) rfl (by decide) ⟨Nat.le_of_ble_eq_true rfl, Nat.le_of_ble_eq_true rfl⟩ hkb rfl rfl (Nat.le_of_ble_eq_true rfl) dL_law_1350 hct2 ?_
  rintro r' G'' D2 ⟨rfl, hJ2⟩
  exact go_sameI 1648 dL_law_1353 (by decide) (nx _ _ _ _ hJ2)
theorem lc_32 (hJ : J k n G D) (hLx : Lx ≤ 3584) (hi : 0 ≤ i ∧ i + 7 ≤ Lx) (nx : ∀ k n G D, J k n G D → LG l E b Lx xs k n 1648 i [] G D) : LG l E b Lx xs k n 1358 i [] G D := by
  refine go_aload_n 1 dL_law_1358 rfl rfl ?_
  refine go_sload_n 0 dL_law_1359 rfl rfl ?_
  refine go_iload_n 3 dL_law_1360 rfl rfl ?_
  refine go_iconst dL_law_1361 ?_
  refine go_iadd dL_law_1362 ?_
  refine go_sld (i := i + 1) hLx (by omega) dL_law_1363 ?_
  refine go_sload_n 0 dL_law_1364 rfl rfl ?_
  refine go_iload_n 3 dL_law_1365 rfl rfl ?_
  refine go_iconst dL_law_1366 ?_
  refine go_iadd dL_law_1367 ?_
  refine go_sld (i := i + 2) hLx (by omega) dL_law_1368 ?_
  refine go_sload_n 0 dL_law_1369 rfl rfl ?_
  refine go_iload_n 3 dL_law_1370 rfl rfl ?_
  refine go_iconst dL_law_1371 ?_
  refine go_iadd dL_law_1372 ?_
  refine go_sld (i := i + 3) hLx (by omega) dL_law_1373 ?_
  refine go_sload_n 0 dL_law_1374 rfl rfl ?_
  refine go_iload_n 3 dL_law_1375 rfl rfl ?_
  refine go_iconst dL_law_1376 ?_
  refine go_iadd dL_law_1377 ?_
  refine go_sld (i := i + 4) hLx (by omega) dL_law_1378 ?_
  obtain ⟨mc, ms, hf, hct⟩ : Pr l E 0 MX9_ring MX10_ring [vI (xs (i + 1).toNat).toInt, vI (xs (i + 2).toNat).toInt, vI (xs (i + 3).toNat).toInt, vI (xs (i + 4).toNat).toInt] k n G D := pr_ring hJ (sc_b _) (sc_b _) (sc_b _) (sc_b _)
  refine go_callT (M := MX9_ring) (κ := 0) (c := 0) (as := [vI (xs (i + 1).toNat).toInt, vI (xs (i + 2).toNat).toInt, vI (xs (i + 3).toNat).toInt, vI (xs (i + 4).toNat).toInt]) (rest := []) mv_L_157 (hJ.L.1 0 _ rfl) rfl (by decide) ⟨Nat.le_of_ble_eq_true rfl, Nat.le_of_ble_eq_true rfl⟩ hf rfl rfl (Nat.le_of_ble_eq_true rfl) dL_law_1379 hct ?_
  rintro r G' D1 ⟨k', n', hkn, hkb, hL', hct2⟩
  refine ⟨k', n', hkn, ?_⟩
  refine go_aload_n 2 dL_law_1382 rfl rfl ?_
  refine go_sload_n 0 dL_law_1383 rfl rfl ?_
  refine go_iload_n 3 dL_law_1384 rfl rfl ?_
  refine go_iconst dL_law_1385 ?_
  refine go_iadd dL_law_1386 ?_
  refine go_sld (i := i + 1) hLx (by omega) dL_law_1387 ?_
  refine go_sload_n 0 dL_law_1388 rfl rfl ?_
  refine go_iload_n 3 dL_law_1389 rfl rfl ?_
  refine go_iconst dL_law_1390 ?_
  refine go_iadd dL_law_1391 ?_
  refine go_sld (i := i + 2) hLx (by omega) dL_law_1392 ?_
  refine go_sload_n 0 dL_law_1393 rfl rfl ?_
  refine go_iload_n 3 dL_law_1394 rfl rfl ?_
  refine go_iconst dL_law_1395 ?_
  refine go_iadd dL_law_1396 ?_
  refine go_sld (i := i + 3) hLx (by omega) dL_law_1397 ?_
  refine go_sload_n 0 dL_law_1398 rfl rfl ?_
  refine go_iload_n 3 dL_law_1399 rfl rfl ?_
  refine go_iconst dL_law_1400 ?_
  refine go_iadd dL_law_1401 ?_
  refine go_sld (i := i + 4) hLx (by omega) dL_law_1402 ?_
  refine go_cv0 (M := MX10_ring) (κ := 0) (c := 107) (as := [vI (xs (i + 1).toNat).toInt, vI (xs (i + 2).toNat).toInt, vI (xs (i + 3).toNat).toInt, vI (xs (i + 4).toNat).toInt]) (rest := [vI r]) mv_L_160 (hL'.1 107 _ rfl) rfl (by decide) ⟨Nat.le_of_ble_eq_true rfl, Nat.le_of_ble_eq_true rfl⟩ hkb rfl rfl (Nat.le_of_ble_eq_true rfl) dL_law_1403 hct2 ?_
  rintro r' G'' D2 ⟨rfl, hJ2⟩
  exact go_sameI 1648 dL_law_1406 (by decide) (nx _ _ _ _ hJ2)
theorem lc_33 (hJ : J k n G D) (hLx : Lx ≤ 3584) (hi : 0 ≤ i ∧ i + 7 ≤ Lx) (nx : ∀ k n G D, J k n G D → LG l E b Lx xs k n 1648 i [] G D) : LG l E b Lx xs k n 1411 i [] G D := by
  refine go_aload_n 1 dL_law_1411 rfl rfl ?_
  obtain ⟨mc, ms, hf, hct⟩ : Pr l E 0 MX9_settle MX10_settle [] k n G D := pr_settle hJ
  refine go_callT (M := MX9_settle) (κ := 0) (c := 0) (as := []) (rest := []) mv_L_161 (hJ.L.1 0 _ rfl) rfl (by decide) ⟨Nat.le_of_ble_eq_true rfl, Nat.le_of_ble_eq_true rfl⟩ hf rfl rfl (Nat.le_of_ble_eq_true rfl) dL_law_1412 hct ?_
  rintro r G' D1 ⟨k', n', hkn, hkb, hL', hct2⟩
  refine ⟨k', n', hkn, ?_⟩
  refine go_aload_n 2 dL_law_1415 rfl rfl ?_
  refine go_cv0 (M := MX10_settle) (κ := 0) (c := 107) (as := []) (rest := [vI r]) mv_L_164 (hL'.1 107 _ rfl) rfl (by decide) ⟨Nat.le_of_ble_eq_true rfl, Nat.le_of_ble_eq_true rfl⟩ hkb rfl rfl (Nat.le_of_ble_eq_true rfl) dL_law_1416 hct2 ?_
  rintro r' G'' D2 ⟨rfl, hJ2⟩
  exact go_sameI 1648 dL_law_1419 (by decide) (nx _ _ _ _ hJ2)
theorem lc_34 (hJ : J k n G D) (hLx : Lx ≤ 3584) (hi : 0 ≤ i ∧ i + 7 ≤ Lx) (nx : ∀ k n G D, J k n G D → LG l E b Lx xs k n 1648 i [] G D) : LG l E b Lx xs k n 1424 i [] G D := by
  refine go_aload_n 1 dL_law_1424 rfl rfl ?_
  refine go_sload_n 0 dL_law_1425 rfl rfl ?_
  refine go_iload_n 3 dL_law_1426 rfl rfl ?_
  refine go_iconst dL_law_1427 ?_
  refine go_iadd dL_law_1428 ?_
  refine go_sld (i := i + 1) hLx (by omega) dL_law_1429 ?_
  obtain ⟨mc, ms, hf, hct⟩ : Pr l E 0 MX9_give MX10_give [vI (xs (i + 1).toNat).toInt] k n G D := pr_give hJ (sc_b _)
  refine go_callT (M := MX9_give) (κ := 0) (c := 0) (as := [vI (xs (i + 1).toNat).toInt]) (rest := []) mv_L_165 (hJ.L.1 0 _ rfl) rfl (by decide) ⟨Nat.le_of_ble_eq_true rfl, Nat.le_of_ble_eq_true rfl⟩ hf rfl rfl (Nat.le_of_ble_eq_true rfl) dL_law_1430 hct ?_
  rintro r G' D1 ⟨k', n', hkn, hkb, hL', hct2⟩
  refine ⟨k', n', hkn, ?_⟩
  refine go_aload_n 2 dL_law_1433 rfl rfl ?_
  refine go_sload_n 0 dL_law_1434 rfl rfl ?_
  refine go_iload_n 3 dL_law_1435 rfl rfl ?_
  refine go_iconst dL_law_1436 ?_
  refine go_iadd dL_law_1437 ?_
  refine go_sld (i := i + 1) hLx (by omega) dL_law_1438 ?_
  refine go_cv0 (M := MX10_give) (κ := 0) (c := 107) (as := [vI (xs (i + 1).toNat).toInt]) (rest := [vI r]) mv_L_169 (hL'.1 107 _ rfl) rfl (by decide) ⟨Nat.le_of_ble_eq_true rfl, Nat.le_of_ble_eq_true rfl⟩ hkb rfl rfl (Nat.le_of_ble_eq_true rfl) dL_law_1439 hct2 ?_
  rintro r' G'' D2 ⟨rfl, hJ2⟩
  exact go_sameI 1648 dL_law_1442 (by decide) (nx _ _ _ _ hJ2)
theorem lc_35 (hJ : J k n G D) (hLx : Lx ≤ 3584) (hi : 0 ≤ i ∧ i + 7 ≤ Lx) (nx : ∀ k n G D, J k n G D → LG l E b Lx xs k n 1648 i [] G D) : LG l E b Lx xs k n 1447 i [] G D := by
  refine go_aload_n 1 dL_law_1447 rfl rfl ?_
  refine go_sload_n 0 dL_law_1448 rfl rfl ?_
  refine go_iload_n 3 dL_law_1449 rfl rfl ?_
  refine go_iconst dL_law_1450 ?_
  refine go_iadd dL_law_1451 ?_
  refine go_sld (i := i + 1) hLx (by omega) dL_law_1452 ?_
  obtain ⟨mc, ms, hf, hct⟩ : Pr l E 0 MX9_given MX10_given [vI (xs (i + 1).toNat).toInt] k n G D := pr_given hJ (sc_b _)
  refine go_callT (M := MX9_given) (κ := 0) (c := 0) (as := [vI (xs (i + 1).toNat).toInt]) (rest := []) mv_L_170 (hJ.L.1 0 _ rfl) rfl (by decide) ⟨Nat.le_of_ble_eq_true rfl, Nat.le_of_ble_eq_true rfl⟩ hf rfl rfl (Nat.le_of_ble_eq_true rfl) dL_law_1453 hct ?_
  rintro r G' D1 ⟨k', n', hkn, hkb, hL', hct2⟩
  refine ⟨k', n', hkn, ?_⟩
  refine go_aload_n 2 dL_law_1456 rfl rfl ?_
  refine go_sload_n 0 dL_law_1457 rfl rfl ?_
  refine go_iload_n 3 dL_law_1458 rfl rfl ?_
  refine go_iconst dL_law_1459 ?_
  refine go_iadd dL_law_1460 ?_
  refine go_sld (i := i + 1) hLx (by omega) dL_law_1461 ?_
  refine go_cv0 (M := MX10_given) (κ := 0) (c := 107) (as := [vI (xs (i + 1).toNat).toInt]) (rest := [vI r]) mv_L_173 (hL'.1 107 _ rfl) rfl (by decide) ⟨Nat.le_of_ble_eq_true rfl, Nat.le_of_ble_eq_true rfl⟩ hkb rfl rfl (Nat.le_of_ble_eq_true rfl) dL_law_1462 hct2 ?_
  rintro r' G'' D2 ⟨rfl, hJ2⟩
  exact go_sameI 1648 dL_law_1465 (by decide) (nx _ _ _ _ hJ2)
theorem lc_36 (hJ : J k n G D) (hLx : Lx ≤ 3584) (hi : 0 ≤ i ∧ i + 7 ≤ Lx) (nx : ∀ k n G D, J k n G D → LG l E b Lx xs k n 1648 i [] G D) : LG l E b Lx xs k n 1470 i [] G D := by
  refine go_aload_n 1 dL_law_1470 rfl rfl ?_
  refine go_sload_n 0 dL_law_1471 rfl rfl ?_
  refine go_iload_n 3 dL_law_1472 rfl rfl ?_
  refine go_iconst dL_law_1473 ?_
  refine go_iadd dL_law_1474 ?_
  refine go_sld (i := i + 1) hLx (by omega) dL_law_1475 ?_
  refine go_sload_n 0 dL_law_1476 rfl rfl ?_
  refine go_iload_n 3 dL_law_1477 rfl rfl ?_
  refine go_iconst dL_law_1478 ?_
  refine go_iadd dL_law_1479 ?_
  refine go_sld (i := i + 2) hLx (by omega) dL_law_1480 ?_
  obtain ⟨mc, ms, hf, hct⟩ : Pr l E 0 MX9_narrow MX10_narrow [vI (xs (i + 1).toNat).toInt, vI (xs (i + 2).toNat).toInt] k n G D := pr_narrow hJ (sc_b _) (sc_b _)
  refine go_callT (M := MX9_narrow) (κ := 0) (c := 0) (as := [vI (xs (i + 1).toNat).toInt, vI (xs (i + 2).toNat).toInt]) (rest := []) mv_L_174 (hJ.L.1 0 _ rfl) rfl (by decide) ⟨Nat.le_of_ble_eq_true rfl, Nat.le_of_ble_eq_true rfl⟩ hf rfl rfl (Nat.le_of_ble_eq_true rfl) dL_law_1481 hct ?_
  rintro r G' D1 ⟨k', n', hkn, hkb, hL', hct2⟩
  refine ⟨k', n', hkn, ?_⟩
  refine go_aload_n 2 dL_law_1484 rfl rfl ?_
  refine go_sload_n 0 dL_law_1485 rfl rfl ?_
  refine go_iload_n 3 dL_law_1486 rfl rfl ?_
  refine go_iconst dL_law_1487 ?_
  refine go_iadd dL_law_1488 ?_
  refine go_sld (i := i + 1) hLx (by omega) dL_law_1489 ?_
  refine go_sload_n 0 dL_law_1490 rfl rfl ?_
  refine go_iload_n 3 dL_law_1491 rfl rfl ?_
  refine go_iconst dL_law_1492 ?_
  refine go_iadd dL_law_1493 ?_
  refine go_sld (i := i + 2) hLx (by omega) dL_law_1494 ?_
  refine go_cv0 (M := MX10_narrow) (κ := 0) (c := 107) (as := [vI (xs (i + 1).toNat).toInt, vI (xs (i + 2).toNat).toInt]) (rest := [vI r]) mv_L_177 (hL'.1 107 _ rfl) rfl (by decide) ⟨Nat.le_of_ble_eq_true rfl, Nat.le_of_ble_eq_true rfl⟩ hkb rfl rfl (Nat.le_of_ble_eq_true rfl) dL_law_1495 hct2 ?_
  rintro r' G'' D2 ⟨rfl, hJ2⟩
  exact go_sameI 1648 dL_law_1498 (by decide) (nx _ _ _ _ hJ2)
theorem lc_37 (hJ : J k n G D) (hLx : Lx ≤ 3584) (hi : 0 ≤ i ∧ i + 7 ≤ Lx) (nx : ∀ k n G D, J k n G D → LG l E b Lx xs k n 1648 i [] G D) : LG l E b Lx xs k n 1503 i [] G D := by
  refine go_aload_n 1 dL_law_1503 rfl rfl ?_
  obtain ⟨mc, ms, hf, hct⟩ : Pr l E 0 MX9_together MX10_together [] k n G D := pr_together hJ
  refine go_callT (M := MX9_together) (κ := 0) (c := 0) (as := []) (rest := []) mv_L_178 (hJ.L.1 0 _ rfl) rfl (by decide) ⟨Nat.le_of_ble_eq_true rfl, Nat.le_of_ble_eq_true rfl⟩ hf rfl rfl (Nat.le_of_ble_eq_true rfl) dL_law_1504 hct ?_
  rintro r G' D1 ⟨k', n', hkn, hkb, hL', hct2⟩
  refine ⟨k', n', hkn, ?_⟩
  refine go_aload_n 2 dL_law_1507 rfl rfl ?_
  refine go_cv0 (M := MX10_together) (κ := 0) (c := 107) (as := []) (rest := [vI r]) mv_L_181 (hL'.1 107 _ rfl) rfl (by decide) ⟨Nat.le_of_ble_eq_true rfl, Nat.le_of_ble_eq_true rfl⟩ hkb rfl rfl (Nat.le_of_ble_eq_true rfl) dL_law_1508 hct2 ?_
  rintro r' G'' D2 ⟨rfl, hJ2⟩
  exact go_sameI 1648 dL_law_1511 (by decide) (nx _ _ _ _ hJ2)
theorem lc_38 (hJ : J k n G D) (hLx : Lx ≤ 3584) (hi : 0 ≤ i ∧ i + 7 ≤ Lx) (nx : ∀ k n G D, J k n G D → LG l E b Lx xs k n 1648 i [] G D) : LG l E b Lx xs k n 1516 i [] G D := by
  refine go_aload_n 1 dL_law_1516 rfl rfl ?_
  refine go_sload_n 0 dL_law_1517 rfl rfl ?_
  refine go_iload_n 3 dL_law_1518 rfl rfl ?_
  refine go_iconst dL_law_1519 ?_
  refine go_iadd dL_law_1520 ?_
  refine go_sld (i := i + 1) hLx (by omega) dL_law_1521 ?_
  refine go_sload_n 0 dL_law_1522 rfl rfl ?_
  refine go_iload_n 3 dL_law_1523 rfl rfl ?_
  refine go_iconst dL_law_1524 ?_
  refine go_iadd dL_law_1525 ?_
  refine go_sld (i := i + 2) hLx (by omega) dL_law_1526 ?_
  refine go_sload_n 0 dL_law_1527 rfl rfl ?_
  refine go_iload_n 3 dL_law_1528 rfl rfl ?_
  refine go_iconst dL_law_1529 ?_
  refine go_iadd dL_law_1530 ?_
  refine go_sld (i := i + 3) hLx (by omega) dL_law_1531 ?_
  obtain ⟨mc, ms, hf, hct⟩ : Pr l E 0 MX9_starved MX10_starved [vI (xs (i + 1).toNat).toInt, vI (xs (i + 2).toNat).toInt, vI (xs (i + 3).toNat).toInt] k n G D := pr_starved hJ (sc_b _) (sc_b _) (sc_b _)
  refine go_callT (M := MX9_starved) (κ := 0) (c := 0) (as := [vI (xs (i + 1).toNat).toInt, vI (xs (i + 2).toNat).toInt, vI (xs (i + 3).toNat).toInt]) (rest := []) mv_L_182 (hJ.L.1 0 _ rfl) rfl (by decide) ⟨Nat.le_of_ble_eq_true rfl, Nat.le_of_ble_eq_true rfl⟩ hf rfl rfl (Nat.le_of_ble_eq_true rfl) dL_law_1532 hct ?_
  rintro r G' D1 ⟨k', n', hkn, hkb, hL', hct2⟩
  refine ⟨k', n', hkn, ?_⟩
  refine go_aload_n 2 dL_law_1535 rfl rfl ?_
  refine go_sload_n 0 dL_law_1536 rfl rfl ?_
  refine go_iload_n 3 dL_law_1537 rfl rfl ?_
  refine go_iconst dL_law_1538 ?_
  refine go_iadd dL_law_1539 ?_
  refine go_sld (i := i + 1) hLx (by omega) dL_law_1540 ?_
  refine go_sload_n 0 dL_law_1541 rfl rfl ?_
  refine go_iload_n 3 dL_law_1542 rfl rfl ?_
  refine go_iconst dL_law_1543 ?_
  refine go_iadd dL_law_1544 ?_
  refine go_sld (i := i + 2) hLx (by omega) dL_law_1545 ?_
  refine go_sload_n 0 dL_law_1546 rfl rfl ?_
  refine go_iload_n 3 dL_law_1547 rfl rfl ?_
  refine go_iconst dL_law_1548 ?_
  refine go_iadd dL_law_1549 ?_
  refine go_sld (i := i + 3) hLx (by omega) dL_law_1550 ?_
  refine go_cv0 (M := MX10_starved) (κ := 0) (c := 107) (as := [vI (xs (i + 1).toNat).toInt, vI (xs (i + 2).toNat).toInt, vI (xs (i + 3).toNat).toInt]) (rest := [vI r]) mv_L_185 (hL'.1 107 _ rfl) rfl (by decide) ⟨Nat.le_of_ble_eq_true rfl, Nat.le_of_ble_eq_true rfl⟩ hkb rfl rfl (Nat.le_of_ble_eq_true rfl) dL_law_1551 hct2 ?_
  rintro r' G'' D2 ⟨rfl, hJ2⟩
  exact go_sameI 1648 dL_law_1554 (by decide) (nx _ _ _ _ hJ2)
theorem lc_39 (hJ : J k n G D) (hLx : Lx ≤ 3584) (hi : 0 ≤ i ∧ i + 7 ≤ Lx) (nx : ∀ k n G D, J k n G D → LG l E b Lx xs k n 1648 i [] G D) : LG l E b Lx xs k n 1559 i [] G D := by
  refine go_aload_n 1 dL_law_1559 rfl rfl ?_
  refine go_sload_n 0 dL_law_1560 rfl rfl ?_
  refine go_iload_n 3 dL_law_1561 rfl rfl ?_
  refine go_iconst dL_law_1562 ?_
  refine go_iadd dL_law_1563 ?_
  refine go_sld (i := i + 1) hLx (by omega) dL_law_1564 ?_
  refine go_sload_n 0 dL_law_1565 rfl rfl ?_
  refine go_iload_n 3 dL_law_1566 rfl rfl ?_
  refine go_iconst dL_law_1567 ?_
  refine go_iadd dL_law_1568 ?_
  refine go_sld (i := i + 2) hLx (by omega) dL_law_1569 ?_
  refine go_sload_n 0 dL_law_1570 rfl rfl ?_
  refine go_iload_n 3 dL_law_1571 rfl rfl ?_
  refine go_iconst dL_law_1572 ?_
  refine go_iadd dL_law_1573 ?_
  refine go_sld (i := i + 3) hLx (by omega) dL_law_1574 ?_
  refine go_sload_n 0 dL_law_1575 rfl rfl ?_
  refine go_iload_n 3 dL_law_1576 rfl rfl ?_
  refine go_iconst dL_law_1577 ?_
  refine go_iadd dL_law_1578 ?_
  refine go_sld (i := i + 4) hLx (by omega) dL_law_1579 ?_
  refine go_sload_n 0 dL_law_1580 rfl rfl ?_
  refine go_iload_n 3 dL_law_1581 rfl rfl ?_
  refine go_iconst dL_law_1582 ?_
  refine go_iadd dL_law_1583 ?_
  refine go_sld (i := i + 5) hLx (by omega) dL_law_1584 ?_
  obtain ⟨mc, ms, hf, hct⟩ : Pr l E 0 MX9_luck MX10_luck [vI (xs (i + 1).toNat).toInt, vI (xs (i + 2).toNat).toInt, vI (xs (i + 3).toNat).toInt, vI (xs (i + 4).toNat).toInt, vI (xs (i + 5).toNat).toInt] k n G D := pr_luck hJ (sc_b _) (sc_b _) (sc_b _) (sc_b _) (sc_b _)
  refine go_callT (M := MX9_luck) (κ := 0) (c := 0) (as := [vI (xs (i + 1).toNat).toInt, vI (xs (i + 2).toNat).toInt, vI (xs (i + 3).toNat).toInt, vI (xs (i + 4).toNat).toInt, vI (xs (i + 5).toNat).toInt]) (rest := []) mv_L_186 (hJ.L.1 0 _ rfl) rfl (by decide) ⟨Nat.le_of_ble_eq_true rfl, Nat.le_of_ble_eq_true rfl⟩ hf rfl rfl (Nat.le_of_ble_eq_true rfl) dL_law_1585 hct ?_
  rintro r G' D1 ⟨k', n', hkn, hkb, hL', hct2⟩
  refine ⟨k', n', hkn, ?_⟩
  refine go_aload_n 2 dL_law_1588 rfl rfl ?_
  refine go_sload_n 0 dL_law_1589 rfl rfl ?_
  refine go_iload_n 3 dL_law_1590 rfl rfl ?_
  refine go_iconst dL_law_1591 ?_
  refine go_iadd dL_law_1592 ?_
  refine go_sld (i := i + 1) hLx (by omega) dL_law_1593 ?_
  refine go_sload_n 0 dL_law_1594 rfl rfl ?_
  refine go_iload_n 3 dL_law_1595 rfl rfl ?_
  refine go_iconst dL_law_1596 ?_
  refine go_iadd dL_law_1597 ?_
  refine go_sld (i := i + 2) hLx (by omega) dL_law_1598 ?_
  refine go_sload_n 0 dL_law_1599 rfl rfl ?_
  refine go_iload_n 3 dL_law_1600 rfl rfl ?_
  refine go_iconst dL_law_1601 ?_
  refine go_iadd dL_law_1602 ?_
  refine go_sld (i := i + 3) hLx (by omega) dL_law_1603 ?_
  refine go_sload_n 0 dL_law_1604 rfl rfl ?_
  refine go_iload_n 3 dL_law_1605 rfl rfl ?_
  refine go_iconst dL_law_1606 ?_
  refine go_iadd dL_law_1607 ?_
  refine go_sld (i := i + 4) hLx (by omega) dL_law_1608 ?_
  refine go_sload_n 0 dL_law_1609 rfl rfl ?_
  refine go_iload_n 3 dL_law_1610 rfl rfl ?_
  refine go_iconst dL_law_1611 ?_
  refine go_iadd dL_law_1612 ?_
  refine go_sld (i := i + 5) hLx (by omega) dL_law_1613 ?_
  refine go_cv0 (M := MX10_luck) (κ := 0) (c := 107) (as := [vI (xs (i + 1).toNat).toInt, vI (xs (i + 2).toNat).toInt, vI (xs (i + 3).toNat).toInt, vI (xs (i + 4).toNat).toInt, vI (xs (i + 5).toNat).toInt]) (rest := [vI r]) mv_L_189 (hL'.1 107 _ rfl) rfl (by decide) ⟨Nat.le_of_ble_eq_true rfl, Nat.le_of_ble_eq_true rfl⟩ hkb rfl rfl (Nat.le_of_ble_eq_true rfl) dL_law_1614 hct2 ?_
  rintro r' G'' D2 ⟨rfl, hJ2⟩
  exact go_sameI 1648 dL_law_1617 (by decide) (nx _ _ _ _ hJ2)
theorem lc_40 (hJ : J k n G D) (hLx : Lx ≤ 3584) (hi : 0 ≤ i ∧ i + 7 ≤ Lx) (nx : ∀ k n G D, J k n G D → LG l E b Lx xs k n 1648 i [] G D) : LG l E b Lx xs k n 1622 i [] G D := by
  refine go_aload_n 1 dL_law_1622 rfl rfl ?_
  obtain ⟨mc, ms, hf, hct⟩ : Pr l E 0 MX9_mark MX10_mark [] k n G D := pr_mark hJ
  refine go_callT (M := MX9_mark) (κ := 0) (c := 0) (as := []) (rest := []) mv_L_190 (hJ.L.1 0 _ rfl) rfl (by decide) ⟨Nat.le_of_ble_eq_true rfl, Nat.le_of_ble_eq_true rfl⟩ hf rfl rfl (Nat.le_of_ble_eq_true rfl) dL_law_1623 hct ?_
  rintro r G' D1 ⟨k', n', hkn, hkb, hL', hct2⟩
  refine ⟨k', n', hkn, ?_⟩
  refine go_aload_n 2 dL_law_1626 rfl rfl ?_
  refine go_cv0 (M := MX10_mark) (κ := 0) (c := 107) (as := []) (rest := [vI r]) mv_L_193 (hL'.1 107 _ rfl) rfl (by decide) ⟨Nat.le_of_ble_eq_true rfl, Nat.le_of_ble_eq_true rfl⟩ hkb rfl rfl (Nat.le_of_ble_eq_true rfl) dL_law_1627 hct2 ?_
  rintro r' G'' D2 ⟨rfl, hJ2⟩
  exact go_sameI 1648 dL_law_1630 (by decide) (nx _ _ _ _ hJ2)
theorem lc_41 (hJ : J k n G D) (hLx : Lx ≤ 3584) (hi : 0 ≤ i ∧ i + 7 ≤ Lx) (nx : ∀ k n G D, J k n G D → LG l E b Lx xs k n 1648 i [] G D) : LG l E b Lx xs k n 1635 i [] G D := by
  refine go_aload_n 1 dL_law_1635 rfl rfl ?_
  obtain ⟨mc, ms, hf, hct⟩ : Pr l E 0 MX9_back MX10_back [] k n G D := pr_back hJ
  refine go_callT (M := MX9_back) (κ := 0) (c := 0) (as := []) (rest := []) mv_L_194 (hJ.L.1 0 _ rfl) rfl (by decide) ⟨Nat.le_of_ble_eq_true rfl, Nat.le_of_ble_eq_true rfl⟩ hf rfl rfl (Nat.le_of_ble_eq_true rfl) dL_law_1636 hct ?_
  rintro r G' D1 ⟨k', n', hkn, hkb, hL', hct2⟩
  refine ⟨k', n', hkn, ?_⟩
  refine go_aload_n 2 dL_law_1639 rfl rfl ?_
  refine go_cv0 (M := MX10_back) (κ := 0) (c := 107) (as := []) (rest := [vI r]) mv_L_197 (hL'.1 107 _ rfl) rfl (by decide) ⟨Nat.le_of_ble_eq_true rfl, Nat.le_of_ble_eq_true rfl⟩ hkb rfl rfl (Nat.le_of_ble_eq_true rfl) dL_law_1640 hct2 ?_
  rintro r' G'' D2 ⟨rfl, hJ2⟩
  exact go_sameI 1648 dL_law_1643 (by decide) (nx _ _ _ _ hJ2)
end
