section LawS
variable {G : LG} {Ls : Nat} {xs : Nat → Int32} {kc pc : Nat} {L L' : List (Nat × Value)} {st : List Value} {μ : zMem}
theorem LW.sub (ks : List Nat) (hL : lv_pick L ks = L') (h : LW G kc pc L' st μ) : LW G kc pc L st μ := by
  obtain ⟨D, cA, ad, p, l, e, s, m, below, meth, c, b⟩ := G
  intro H locs ls hP hS hl
  exact h H locs ls hP hS (lv_sub hl ks hL)
end LawS
theorem lc_0 {G : LG} {Ls : Nat} {xs : Nat → Int32} {kc t : Nat} {μ : zMem} (F : LF G Ls xs) (ht : t + 6 ≤ Ls) (hc : kc ≤ 1990) (hQ : QI μ) (fin : ∀ μ', QI μ' → LW G (kc + 3) 2682 (LL G t) [] μ') : LW G kc 204 (LL G t) [] μ := by
  obtain ⟨n, S, D, tn, tb, FF, T, K, M, hq⟩ := hQ
  refine LW_al F dL_law_204 rfl 1 rfl ?_
  refine LW_ld F 1 0 4 ht (by omega) dL_law_205 dL_law_206 dL_law_208 (by decide) dL_law_209 dL_law_210 rfl rfl ?_
  refine LW_ld F 2 0 4 ht (by omega) dL_law_211 dL_law_212 dL_law_214 (by decide) dL_law_215 dL_law_216 rfl rfl ?_
  refine LW_ld F 3 0 4 ht (by omega) dL_law_217 dL_law_218 dL_law_220 (by decide) dL_law_221 dL_law_222 rfl rfl ?_
  refine LW_ld F 4 0 4 ht (by omega) dL_law_223 dL_law_224 dL_law_226 (by decide) dL_law_227 dL_law_228 rfl rfl ?_
  refine LW_ld F 5 0 4 ht (by omega) dL_law_229 dL_law_230 dL_law_232 (by decide) dL_law_233 dL_law_234 rfl rfl ?_
  refine LW_cVi F (d := 98) (g := mX8_feed) (sa := []) [.int (xs (t + 1)), .int (xs (t + 2)), .int (xs (t + 3)), .int (xs (t + 4)), .int (xs (t + 5))] (by decide) dL_law_235 (wGm 482 (by decide +kernel) rfl) mgX8_feed rfl mvX8_feed (zrv zl0 _ rfl rfl) rfl rfl (Nat.le_of_ble_eq_true rfl) (by omega) ((P_feed (d := 96) hq) _ zNo (fun v1 m1 f1 h2 => ?_) (fun E m1 _ _ z => absurd rfl z))
  refine LW_al F dL_law_238 rfl 2 rfl ?_
  refine LW_ld F 1 0 4 ht (by omega) dL_law_239 dL_law_240 dL_law_242 (by decide) dL_law_243 dL_law_244 rfl rfl ?_
  refine LW_ld F 2 0 4 ht (by omega) dL_law_245 dL_law_246 dL_law_248 (by decide) dL_law_249 dL_law_250 rfl rfl ?_
  refine LW_ld F 3 0 4 ht (by omega) dL_law_251 dL_law_252 dL_law_254 (by decide) dL_law_255 dL_law_256 rfl rfl ?_
  refine LW_ld F 4 0 4 ht (by omega) dL_law_257 dL_law_258 dL_law_260 (by decide) dL_law_261 dL_law_262 rfl rfl ?_
  refine LW_ld F 5 0 4 ht (by omega) dL_law_263 dL_law_264 dL_law_266 (by decide) dL_law_267 dL_law_268 rfl rfl ?_
  refine LW_cVi F (d := 98) (g := mX9_feed) (sa := [.int v1]) [.int (xs (t + 1)), .int (xs (t + 2)), .int (xs (t + 3)), .int (xs (t + 4)), .int (xs (t + 5))] (by decide) dL_law_269 (wGm 1573 (by decide +kernel) rfl) mgX9_feed rfl mvX9_feed (zrv zl106 _ rfl rfl) rfl rfl (Nat.le_of_ble_eq_true rfl) (by omega) ((h2 m1 Fr.rf).imp (fun v m3 hk => ?_) (fun _ _ h => h))
  obtain ⟨-, e2, q, -⟩ := hk
  refine LW_eq F 2682 dL_law_272 (by decide) e2.symm ?_
  exact LW.le (kc' := kc + 3) (by omega) (fin _ q)
theorem lc_1 {G : LG} {Ls : Nat} {xs : Nat → Int32} {kc t : Nat} {μ : zMem} (F : LF G Ls xs) (ht : t + 6 ≤ Ls) (hc : kc ≤ 1990) (hQ : QI μ) (fin : ∀ μ', QI μ' → LW G (kc + 3) 2682 (LL G t) [] μ') : LW G kc 277 (LL G t) [] μ := by
  obtain ⟨n, S, D, tn, tb, FF, T, K, M, hq⟩ := hQ
  refine LW_al F dL_law_277 rfl 1 rfl ?_
  refine LW_ld F 1 0 4 ht (by omega) dL_law_278 dL_law_279 dL_law_281 (by decide) dL_law_282 dL_law_283 rfl rfl ?_
  refine LW_al F dL_law_284 rfl 3 rfl ?_
  refine LW_cW F (d := 99) (g := mL_sky) (sa := []) [.ref 0, .int (xs (t + 1)), .ref 143] (by decide) dL_law_285 (wGm 530 (by decide +kernel) rfl) mgL_sky rfl rfl (by decide) (by omega) (wK_of (fun v => v.toInt64) (P_sky (d := 42) hq) (fun K h => cL_sky_ h)) (fun r m1 k1 hk => ?_)
  obtain ⟨c0, rfl, k1le, h3⟩ := hk
  refine ⟨_, rfl, k1le, ?_⟩
  show LW G (kc + 1) 288 (LL G t) [.int c0] m1
  refine LW_is F (L' := [(5, .int c0), (0, .ref (gB G)), (1, .ref (gA G 0)), (2, .ref (gA G 106)), (3, .ref (gA G 143)), (4, .int (nI t))]) dL_law_288 (by decide) rfl ?_
  refine LW_al F dL_law_290 rfl 3 rfl ?_
  refine LW_ld F 1 1 5 ht (by omega) dL_law_291 dL_law_292 dL_law_294 (by decide) dL_law_295 dL_law_296 rfl rfl ?_
  refine LW_cVi F (d := 98) (g := mX9_sky) (sa := []) [.int (xs (t + 1))] (by decide) dL_law_297 (wGm 1577 (by decide +kernel) rfl) mgX9_sky rfl mvX9_sky (zrv zl106 _ rfl rfl) rfl rfl (Nat.le_of_ble_eq_true rfl) (by omega) (h3.imp (fun v m3 hk => ?_) (fun _ _ h => h))
  obtain ⟨e1, e2, q⟩ := hk
  refine LW_is F (L' := [(6, .int v), (5, .int c0), (0, .ref (gB G)), (1, .ref (gA G 0)), (2, .ref (gA G 106)), (3, .ref (gA G 143)), (4, .int (nI t))]) dL_law_300 (by decide) rfl ?_
  refine LW_al F dL_law_302 rfl 4 rfl ?_
  refine LW_cVi F (d := 98) (g := mX9_thrown) (sa := []) [] (by decide) dL_law_303 (wGm 1569 (by decide +kernel) rfl) mgX9_thrown rfl mvX9_thrown (zrv zl106 _ rfl rfl) rfl rfl (Nat.le_of_ble_eq_true rfl) (by omega) (cX9_thrown_ (d := 97) ?_)
  show LW G (kc + 3) 306 [(6, .int v), (5, .int c0), (0, .ref (gB G)), (1, .ref (gA G 0)), (2, .ref (gA G 106)), (3, .ref (gA G 143)), (4, .int (nI t))] [.int (m3 106 3)] m3
  refine LW_il F dL_law_306 1 rfl ?_
  refine LW_eq F 313 dL_law_308 (by decide) e1 ?_
  refine LW_il F dL_law_313 1 rfl ?_
  refine LW_ne0 F 330 dL_law_315 (by decide) (fun z => LW_go F 2682 dL_law_330 (by decide) (LW.sub [2, 3, 4, 5, 6] rfl (fin _ q))) (fun z => ?_)
  refine LW_al F dL_law_318 rfl 5 rfl ?_
  refine LW_ic F (v := 0) dL_law_319 (by decide) ?_
  refine LW_lald F dL_law_320 ?_
  rw [e2 z]
  refine LW_il F dL_law_321 0 rfl ?_
  refine LW_i2l F dL_law_323 ?_
  refine LW_lq F 330 dL_law_324 dL_law_325 (by decide) rfl ?_
  refine LW_go F 2682 dL_law_330 (by decide) ?_
  exact LW.sub [2, 3, 4, 5, 6] rfl (fin _ q)
theorem lc_2 {G : LG} {Ls : Nat} {xs : Nat → Int32} {kc t : Nat} {μ : zMem} (F : LF G Ls xs) (ht : t + 6 ≤ Ls) (hc : kc ≤ 1990) (hQ : QI μ) (fin : ∀ μ', QI μ' → LW G (kc + 3) 2682 (LL G t) [] μ') : LW G kc 333 (LL G t) [] μ := by
  obtain ⟨n, S, D, tn, tb, FF, T, K, M, hq⟩ := hQ
  refine LW_al F dL_law_333 rfl 1 rfl ?_
  refine LW_cVi F (d := 98) (g := mX8_fault) (sa := []) [] (by decide) dL_law_334 (wGm 490 (by decide +kernel) rfl) mgX8_fault rfl mvX8_fault (zrv zl0 _ rfl rfl) rfl rfl (Nat.le_of_ble_eq_true rfl) (by omega) ((P_fault (d := 96) hq) _ zNo (fun v1 m1 f1 h2 => ?_) (fun E m1 _ _ z => absurd rfl z))
  refine LW_al F dL_law_337 rfl 2 rfl ?_
  refine LW_cVi F (d := 98) (g := mX9_fault) (sa := [.int v1]) [] (by decide) dL_law_338 (wGm 1698 (by decide +kernel) rfl) mgX9_fault rfl mvX9_fault (zrv zl106 _ rfl rfl) rfl rfl (Nat.le_of_ble_eq_true rfl) (by omega) ((h2 m1 Fr.rf).imp (fun v m3 hk => ?_) (fun _ _ h => h))
  obtain ⟨-, e2, q, -⟩ := hk
  refine LW_eq F 2682 dL_law_341 (by decide) e2.symm ?_
  exact LW.le (kc' := kc + 3) (by omega) (fin _ q)
theorem lc_3 {G : LG} {Ls : Nat} {xs : Nat → Int32} {kc t : Nat} {μ : zMem} (F : LF G Ls xs) (ht : t + 6 ≤ Ls) (hc : kc ≤ 1990) (hQ : QI μ) (fin : ∀ μ', QI μ' → LW G (kc + 3) 2682 (LL G t) [] μ') : LW G kc 346 (LL G t) [] μ := by
  obtain ⟨n, S, D, tn, tb, FF, T, K, M, hq⟩ := hQ
  refine LW_al F dL_law_346 rfl 1 rfl ?_
  refine LW_ld F 1 0 4 ht (by omega) dL_law_347 dL_law_348 dL_law_350 (by decide) dL_law_351 dL_law_352 rfl rfl ?_
  refine LW_al F dL_law_353 rfl 3 rfl ?_
  refine LW_cW F (d := 99) (g := mL_count) (sa := []) [.ref 0, .int (xs (t + 1)), .ref 143] (by decide) dL_law_354 (wGm 882 (by decide +kernel) rfl) mgL_count rfl rfl (by decide) (by omega) (wK_of (fun v => v.toInt64) (P_count (d := 96) hq) (fun K h => cL_count_ h)) (fun r m1 k1 hk => ?_)
  obtain ⟨c0, rfl, k1le, h3⟩ := hk
  refine ⟨_, rfl, k1le, ?_⟩
  show LW G (kc + 1) 357 (LL G t) [.int c0] m1
  refine LW_is F (L' := [(5, .int c0), (0, .ref (gB G)), (1, .ref (gA G 0)), (2, .ref (gA G 106)), (3, .ref (gA G 143)), (4, .int (nI t))]) dL_law_357 (by decide) rfl ?_
  refine LW_al F dL_law_359 rfl 3 rfl ?_
  refine LW_ld F 1 1 5 ht (by omega) dL_law_360 dL_law_361 dL_law_363 (by decide) dL_law_364 dL_law_365 rfl rfl ?_
  refine LW_cVi F (d := 98) (g := mX9_count) (sa := []) [.int (xs (t + 1))] (by decide) dL_law_366 (wGm 1702 (by decide +kernel) rfl) mgX9_count rfl mvX9_count (zrv zl106 _ rfl rfl) rfl rfl (Nat.le_of_ble_eq_true rfl) (by omega) (h3.imp (fun v m3 hk => ?_) (fun _ _ h => h))
  obtain ⟨e1, e2, q⟩ := hk
  refine LW_is F (L' := [(6, .int v), (5, .int c0), (0, .ref (gB G)), (1, .ref (gA G 0)), (2, .ref (gA G 106)), (3, .ref (gA G 143)), (4, .int (nI t))]) dL_law_369 (by decide) rfl ?_
  refine LW_al F dL_law_371 rfl 4 rfl ?_
  refine LW_cVi F (d := 98) (g := mX9_thrown) (sa := []) [] (by decide) dL_law_372 (wGm 1569 (by decide +kernel) rfl) mgX9_thrown rfl mvX9_thrown (zrv zl106 _ rfl rfl) rfl rfl (Nat.le_of_ble_eq_true rfl) (by omega) (cX9_thrown_ (d := 97) ?_)
  show LW G (kc + 3) 375 [(6, .int v), (5, .int c0), (0, .ref (gB G)), (1, .ref (gA G 0)), (2, .ref (gA G 106)), (3, .ref (gA G 143)), (4, .int (nI t))] [.int (m3 106 3)] m3
  refine LW_il F dL_law_375 1 rfl ?_
  refine LW_eq F 382 dL_law_377 (by decide) e1 ?_
  refine LW_il F dL_law_382 1 rfl ?_
  refine LW_ne0 F 399 dL_law_384 (by decide) (fun z => LW_go F 2682 dL_law_399 (by decide) (LW.sub [2, 3, 4, 5, 6] rfl (fin _ q))) (fun z => ?_)
  refine LW_al F dL_law_387 rfl 5 rfl ?_
  refine LW_ic F (v := 0) dL_law_388 (by decide) ?_
  refine LW_lald F dL_law_389 ?_
  rw [e2 z]
  refine LW_il F dL_law_390 0 rfl ?_
  refine LW_i2l F dL_law_392 ?_
  refine LW_lq F 399 dL_law_393 dL_law_394 (by decide) rfl ?_
  refine LW_go F 2682 dL_law_399 (by decide) ?_
  exact LW.sub [2, 3, 4, 5, 6] rfl (fin _ q)
theorem lc_4 {G : LG} {Ls : Nat} {xs : Nat → Int32} {kc t : Nat} {μ : zMem} (F : LF G Ls xs) (ht : t + 6 ≤ Ls) (hc : kc ≤ 1990) (hQ : QI μ) (fin : ∀ μ', QI μ' → LW G (kc + 3) 2682 (LL G t) [] μ') : LW G kc 402 (LL G t) [] μ := by
  obtain ⟨n, S, D, tn, tb, FF, T, K, M, hq⟩ := hQ
  refine LW_al F dL_law_402 rfl 1 rfl ?_
  refine LW_ld F 1 0 4 ht (by omega) dL_law_403 dL_law_404 dL_law_406 (by decide) dL_law_407 dL_law_408 rfl rfl ?_
  refine LW_ld F 2 0 4 ht (by omega) dL_law_409 dL_law_410 dL_law_412 (by decide) dL_law_413 dL_law_414 rfl rfl ?_
  refine LW_al F dL_law_415 rfl 3 rfl ?_
  refine LW_cW F (d := 99) (g := mL_isle) (sa := []) [.ref 0, .int (xs (t + 1)), .int (xs (t + 2)), .ref 143] (by decide) dL_law_416 (wGm 906 (by decide +kernel) rfl) mgL_isle rfl rfl (by decide) (by omega) (wK_of (fun v => v.toInt64) (P_isle (d := 94) hq) (fun K h => cL_isle_ h)) (fun r m1 k1 hk => ?_)
  obtain ⟨c0, rfl, k1le, h3⟩ := hk
  refine ⟨_, rfl, k1le, ?_⟩
  show LW G (kc + 1) 419 (LL G t) [.int c0] m1
  refine LW_is F (L' := [(5, .int c0), (0, .ref (gB G)), (1, .ref (gA G 0)), (2, .ref (gA G 106)), (3, .ref (gA G 143)), (4, .int (nI t))]) dL_law_419 (by decide) rfl ?_
  refine LW_al F dL_law_421 rfl 3 rfl ?_
  refine LW_ld F 1 1 5 ht (by omega) dL_law_422 dL_law_423 dL_law_425 (by decide) dL_law_426 dL_law_427 rfl rfl ?_
  refine LW_ld F 2 1 5 ht (by omega) dL_law_428 dL_law_429 dL_law_431 (by decide) dL_law_432 dL_law_433 rfl rfl ?_
  refine LW_cVi F (d := 98) (g := mX9_isle) (sa := []) [.int (xs (t + 1)), .int (xs (t + 2))] (by decide) dL_law_434 (wGm 1712 (by decide +kernel) rfl) mgX9_isle rfl mvX9_isle (zrv zl106 _ rfl rfl) rfl rfl (Nat.le_of_ble_eq_true rfl) (by omega) (h3.imp (fun v m3 hk => ?_) (fun _ _ h => h))
  obtain ⟨e1, e2, q⟩ := hk
  refine LW_is F (L' := [(6, .int v), (5, .int c0), (0, .ref (gB G)), (1, .ref (gA G 0)), (2, .ref (gA G 106)), (3, .ref (gA G 143)), (4, .int (nI t))]) dL_law_437 (by decide) rfl ?_
  refine LW_al F dL_law_439 rfl 4 rfl ?_
  refine LW_cVi F (d := 98) (g := mX9_thrown) (sa := []) [] (by decide) dL_law_440 (wGm 1569 (by decide +kernel) rfl) mgX9_thrown rfl mvX9_thrown (zrv zl106 _ rfl rfl) rfl rfl (Nat.le_of_ble_eq_true rfl) (by omega) (cX9_thrown_ (d := 97) ?_)
  show LW G (kc + 3) 443 [(6, .int v), (5, .int c0), (0, .ref (gB G)), (1, .ref (gA G 0)), (2, .ref (gA G 106)), (3, .ref (gA G 143)), (4, .int (nI t))] [.int (m3 106 3)] m3
  refine LW_il F dL_law_443 1 rfl ?_
  refine LW_eq F 450 dL_law_445 (by decide) e1 ?_
  refine LW_il F dL_law_450 1 rfl ?_
  refine LW_ne0 F 467 dL_law_452 (by decide) (fun z => LW_go F 2682 dL_law_467 (by decide) (LW.sub [2, 3, 4, 5, 6] rfl (fin _ q))) (fun z => ?_)
  refine LW_al F dL_law_455 rfl 5 rfl ?_
  refine LW_ic F (v := 0) dL_law_456 (by decide) ?_
  refine LW_lald F dL_law_457 ?_
  rw [e2 z]
  refine LW_il F dL_law_458 0 rfl ?_
  refine LW_i2l F dL_law_460 ?_
  refine LW_lq F 467 dL_law_461 dL_law_462 (by decide) rfl ?_
  refine LW_go F 2682 dL_law_467 (by decide) ?_
  exact LW.sub [2, 3, 4, 5, 6] rfl (fin _ q)
theorem lc_5 {G : LG} {Ls : Nat} {xs : Nat → Int32} {kc t : Nat} {μ : zMem} (F : LF G Ls xs) (ht : t + 6 ≤ Ls) (hc : kc ≤ 1990) (hQ : QI μ) (fin : ∀ μ', QI μ' → LW G (kc + 3) 2682 (LL G t) [] μ') : LW G kc 470 (LL G t) [] μ := by
  obtain ⟨n, S, D, tn, tb, FF, T, K, M, hq⟩ := hQ
  refine LW_al F dL_law_470 rfl 1 rfl ?_
  refine LW_ld F 1 0 4 ht (by omega) dL_law_471 dL_law_472 dL_law_474 (by decide) dL_law_475 dL_law_476 rfl rfl ?_
  refine LW_ld F 2 0 4 ht (by omega) dL_law_477 dL_law_478 dL_law_480 (by decide) dL_law_481 dL_law_482 rfl rfl ?_
  refine LW_al F dL_law_483 rfl 3 rfl ?_
  refine LW_cW F (d := 99) (g := mL_wind) (sa := []) [.ref 0, .int (xs (t + 1)), .int (xs (t + 2)), .ref 143] (by decide) dL_law_484 (wGm 937 (by decide +kernel) rfl) mgL_wind rfl rfl (by decide) (by omega) (wK_of (fun v => v.toInt64) (P_wind (d := 95) hq) (fun K h => cL_wind_ h)) (fun r m1 k1 hk => ?_)
  obtain ⟨c0, rfl, k1le, h3⟩ := hk
  refine ⟨_, rfl, k1le, ?_⟩
  show LW G (kc + 1) 487 (LL G t) [.int c0] m1
  refine LW_is F (L' := [(5, .int c0), (0, .ref (gB G)), (1, .ref (gA G 0)), (2, .ref (gA G 106)), (3, .ref (gA G 143)), (4, .int (nI t))]) dL_law_487 (by decide) rfl ?_
  refine LW_al F dL_law_489 rfl 3 rfl ?_
  refine LW_ld F 1 1 5 ht (by omega) dL_law_490 dL_law_491 dL_law_493 (by decide) dL_law_494 dL_law_495 rfl rfl ?_
  refine LW_ld F 2 1 5 ht (by omega) dL_law_496 dL_law_497 dL_law_499 (by decide) dL_law_500 dL_law_501 rfl rfl ?_
  refine LW_cVi F (d := 98) (g := mX9_wind) (sa := []) [.int (xs (t + 1)), .int (xs (t + 2))] (by decide) dL_law_502 (wGm 1738 (by decide +kernel) rfl) mgX9_wind rfl mvX9_wind (zrv zl106 _ rfl rfl) rfl rfl (Nat.le_of_ble_eq_true rfl) (by omega) (h3.imp (fun v m3 hk => ?_) (fun _ _ h => h))
  obtain ⟨e1, e2, q⟩ := hk
  refine LW_is F (L' := [(6, .int v), (5, .int c0), (0, .ref (gB G)), (1, .ref (gA G 0)), (2, .ref (gA G 106)), (3, .ref (gA G 143)), (4, .int (nI t))]) dL_law_505 (by decide) rfl ?_
  refine LW_al F dL_law_507 rfl 4 rfl ?_
  refine LW_cVi F (d := 98) (g := mX9_thrown) (sa := []) [] (by decide) dL_law_508 (wGm 1569 (by decide +kernel) rfl) mgX9_thrown rfl mvX9_thrown (zrv zl106 _ rfl rfl) rfl rfl (Nat.le_of_ble_eq_true rfl) (by omega) (cX9_thrown_ (d := 97) ?_)
  show LW G (kc + 3) 511 [(6, .int v), (5, .int c0), (0, .ref (gB G)), (1, .ref (gA G 0)), (2, .ref (gA G 106)), (3, .ref (gA G 143)), (4, .int (nI t))] [.int (m3 106 3)] m3
  refine LW_il F dL_law_511 1 rfl ?_
  refine LW_eq F 518 dL_law_513 (by decide) e1 ?_
  refine LW_il F dL_law_518 1 rfl ?_
  refine LW_ne0 F 535 dL_law_520 (by decide) (fun z => LW_go F 2682 dL_law_535 (by decide) (LW.sub [2, 3, 4, 5, 6] rfl (fin _ q))) (fun z => ?_)
  refine LW_al F dL_law_523 rfl 5 rfl ?_
  refine LW_ic F (v := 0) dL_law_524 (by decide) ?_
  refine LW_lald F dL_law_525 ?_
  rw [e2 z]
  refine LW_il F dL_law_526 0 rfl ?_
  refine LW_i2l F dL_law_528 ?_
  refine LW_lq F 535 dL_law_529 dL_law_530 (by decide) rfl ?_
  refine LW_go F 2682 dL_law_535 (by decide) ?_
  exact LW.sub [2, 3, 4, 5, 6] rfl (fin _ q)
theorem lc_6 {G : LG} {Ls : Nat} {xs : Nat → Int32} {kc t : Nat} {μ : zMem} (F : LF G Ls xs) (ht : t + 6 ≤ Ls) (hc : kc ≤ 1990) (hQ : QI μ) (fin : ∀ μ', QI μ' → LW G (kc + 3) 2682 (LL G t) [] μ') : LW G kc 538 (LL G t) [] μ := by
  obtain ⟨n, S, D, tn, tb, FF, T, K, M, hq⟩ := hQ
  refine LW_al F dL_law_538 rfl 1 rfl ?_
  refine LW_ld F 1 0 4 ht (by omega) dL_law_539 dL_law_540 dL_law_542 (by decide) dL_law_543 dL_law_544 rfl rfl ?_
  refine LW_ld F 2 0 4 ht (by omega) dL_law_545 dL_law_546 dL_law_548 (by decide) dL_law_549 dL_law_550 rfl rfl ?_
  refine LW_ld F 3 0 4 ht (by omega) dL_law_551 dL_law_552 dL_law_554 (by decide) dL_law_555 dL_law_556 rfl rfl ?_
  refine LW_al F dL_law_557 rfl 3 rfl ?_
  refine LW_cW F (d := 99) (g := mL_where) (sa := []) [.ref 0, .int (xs (t + 1)), .int (xs (t + 2)), .int (xs (t + 3)), .ref 143] (by decide) dL_law_558 (wGm 964 (by decide +kernel) rfl) mgL_where rfl rfl (by decide) (by omega) (wK_of (fun v => v.toInt64) (P_where (d := 91) hq) (fun K h => cL_where_ h)) (fun r m1 k1 hk => ?_)
  obtain ⟨c0, rfl, k1le, h3⟩ := hk
  refine ⟨_, rfl, k1le, ?_⟩
  show LW G (kc + 1) 561 (LL G t) [.int c0] m1
  refine LW_is F (L' := [(5, .int c0), (0, .ref (gB G)), (1, .ref (gA G 0)), (2, .ref (gA G 106)), (3, .ref (gA G 143)), (4, .int (nI t))]) dL_law_561 (by decide) rfl ?_
  refine LW_al F dL_law_563 rfl 3 rfl ?_
  refine LW_ld F 1 1 5 ht (by omega) dL_law_564 dL_law_565 dL_law_567 (by decide) dL_law_568 dL_law_569 rfl rfl ?_
  refine LW_ld F 2 1 5 ht (by omega) dL_law_570 dL_law_571 dL_law_573 (by decide) dL_law_574 dL_law_575 rfl rfl ?_
  refine LW_ld F 3 1 5 ht (by omega) dL_law_576 dL_law_577 dL_law_579 (by decide) dL_law_580 dL_law_581 rfl rfl ?_
  refine LW_cVi F (d := 98) (g := mX9_where) (sa := []) [.int (xs (t + 1)), .int (xs (t + 2)), .int (xs (t + 3))] (by decide) dL_law_582 (wGm 1750 (by decide +kernel) rfl) mgX9_where rfl mvX9_where (zrv zl106 _ rfl rfl) rfl rfl (Nat.le_of_ble_eq_true rfl) (by omega) (h3.imp (fun v m3 hk => ?_) (fun _ _ h => h))
  obtain ⟨e1, e2, q⟩ := hk
  refine LW_is F (L' := [(6, .int v), (5, .int c0), (0, .ref (gB G)), (1, .ref (gA G 0)), (2, .ref (gA G 106)), (3, .ref (gA G 143)), (4, .int (nI t))]) dL_law_585 (by decide) rfl ?_
  refine LW_al F dL_law_587 rfl 4 rfl ?_
  refine LW_cVi F (d := 98) (g := mX9_thrown) (sa := []) [] (by decide) dL_law_588 (wGm 1569 (by decide +kernel) rfl) mgX9_thrown rfl mvX9_thrown (zrv zl106 _ rfl rfl) rfl rfl (Nat.le_of_ble_eq_true rfl) (by omega) (cX9_thrown_ (d := 97) ?_)
  show LW G (kc + 3) 591 [(6, .int v), (5, .int c0), (0, .ref (gB G)), (1, .ref (gA G 0)), (2, .ref (gA G 106)), (3, .ref (gA G 143)), (4, .int (nI t))] [.int (m3 106 3)] m3
  refine LW_il F dL_law_591 1 rfl ?_
  refine LW_eq F 598 dL_law_593 (by decide) e1 ?_
  refine LW_il F dL_law_598 1 rfl ?_
  refine LW_ne0 F 615 dL_law_600 (by decide) (fun z => LW_go F 2682 dL_law_615 (by decide) (LW.sub [2, 3, 4, 5, 6] rfl (fin _ q))) (fun z => ?_)
  refine LW_al F dL_law_603 rfl 5 rfl ?_
  refine LW_ic F (v := 0) dL_law_604 (by decide) ?_
  refine LW_lald F dL_law_605 ?_
  rw [e2 z]
  refine LW_il F dL_law_606 0 rfl ?_
  refine LW_i2l F dL_law_608 ?_
  refine LW_lq F 615 dL_law_609 dL_law_610 (by decide) rfl ?_
  refine LW_go F 2682 dL_law_615 (by decide) ?_
  exact LW.sub [2, 3, 4, 5, 6] rfl (fin _ q)
theorem lc_7 {G : LG} {Ls : Nat} {xs : Nat → Int32} {kc t : Nat} {μ : zMem} (F : LF G Ls xs) (ht : t + 6 ≤ Ls) (hc : kc ≤ 1990) (hQ : QI μ) (fin : ∀ μ', QI μ' → LW G (kc + 3) 2682 (LL G t) [] μ') : LW G kc 618 (LL G t) [] μ := by
  obtain ⟨n, S, D, tn, tb, FF, T, K, M, hq⟩ := hQ
  refine LW_al F dL_law_618 rfl 1 rfl ?_
  refine LW_ld F 1 0 4 ht (by omega) dL_law_619 dL_law_620 dL_law_622 (by decide) dL_law_623 dL_law_624 rfl rfl ?_
  refine LW_ld F 2 0 4 ht (by omega) dL_law_625 dL_law_626 dL_law_628 (by decide) dL_law_629 dL_law_630 rfl rfl ?_
  refine LW_ld F 3 0 4 ht (by omega) dL_law_631 dL_law_632 dL_law_634 (by decide) dL_law_635 dL_law_636 rfl rfl ?_
  refine LW_ld F 4 0 4 ht (by omega) dL_law_637 dL_law_638 dL_law_640 (by decide) dL_law_641 dL_law_642 rfl rfl ?_
  refine LW_al F dL_law_643 rfl 3 rfl ?_
  refine LW_cW F (d := 99) (g := mL_between) (sa := []) [.ref 0, .int (xs (t + 1)), .int (xs (t + 2)), .int (xs (t + 3)), .int (xs (t + 4)), .ref 143] (by decide) dL_law_644 (wGm 1009 (by decide +kernel) rfl) mgL_between rfl rfl (by decide) (by omega) (wK_of (fun v => if v = 0 then 0 else 1) (P_between (d := 91) hq) (fun K h => cL_between_ h)) (fun r m1 k1 hk => ?_)
  obtain ⟨c0, rfl, k1le, h3⟩ := hk
  refine ⟨_, rfl, k1le, ?_⟩
  show LW G (kc + 1) 647 (LL G t) [.int c0] m1
  refine LW_is F (L' := [(5, .int c0), (0, .ref (gB G)), (1, .ref (gA G 0)), (2, .ref (gA G 106)), (3, .ref (gA G 143)), (4, .int (nI t))]) dL_law_647 (by decide) rfl ?_
  refine LW_al F dL_law_649 rfl 3 rfl ?_
  refine LW_ld F 1 1 5 ht (by omega) dL_law_650 dL_law_651 dL_law_653 (by decide) dL_law_654 dL_law_655 rfl rfl ?_
  refine LW_ld F 2 1 5 ht (by omega) dL_law_656 dL_law_657 dL_law_659 (by decide) dL_law_660 dL_law_661 rfl rfl ?_
  refine LW_ld F 3 1 5 ht (by omega) dL_law_662 dL_law_663 dL_law_665 (by decide) dL_law_666 dL_law_667 rfl rfl ?_
  refine LW_ld F 4 1 5 ht (by omega) dL_law_668 dL_law_669 dL_law_671 (by decide) dL_law_672 dL_law_673 rfl rfl ?_
  refine LW_cVi F (d := 98) (g := mX9_between) (sa := []) [.int (xs (t + 1)), .int (xs (t + 2)), .int (xs (t + 3)), .int (xs (t + 4))] (by decide) dL_law_674 (wGm 1778 (by decide +kernel) rfl) mgX9_between rfl mvX9_between (zrv zl106 _ rfl rfl) rfl rfl (Nat.le_of_ble_eq_true rfl) (by omega) (h3.imp (fun v m3 hk => ?_) (fun _ _ h => h))
  obtain ⟨e1, e2, q⟩ := hk
  refine LW_is F (L' := [(6, .int v), (5, .int c0), (0, .ref (gB G)), (1, .ref (gA G 0)), (2, .ref (gA G 106)), (3, .ref (gA G 143)), (4, .int (nI t))]) dL_law_677 (by decide) rfl ?_
  refine LW_al F dL_law_679 rfl 4 rfl ?_
  refine LW_cVi F (d := 98) (g := mX9_thrown) (sa := []) [] (by decide) dL_law_680 (wGm 1569 (by decide +kernel) rfl) mgX9_thrown rfl mvX9_thrown (zrv zl106 _ rfl rfl) rfl rfl (Nat.le_of_ble_eq_true rfl) (by omega) (cX9_thrown_ (d := 97) ?_)
  show LW G (kc + 3) 683 [(6, .int v), (5, .int c0), (0, .ref (gB G)), (1, .ref (gA G 0)), (2, .ref (gA G 106)), (3, .ref (gA G 143)), (4, .int (nI t))] [.int (m3 106 3)] m3
  refine LW_il F dL_law_683 1 rfl ?_
  refine LW_eq F 690 dL_law_685 (by decide) e1 ?_
  refine LW_il F dL_law_690 1 rfl ?_
  refine LW_ne0 F 714 dL_law_692 (by decide) (fun z => LW_go F 2682 dL_law_714 (by decide) (LW.sub [2, 3, 4, 5, 6] rfl (fin _ q))) (fun z => ?_)
  refine LW_al F dL_law_695 rfl 5 rfl ?_
  refine LW_ic F (v := 0) dL_law_696 (by decide) ?_
  refine LW_lald F dL_law_697 ?_
  rw [e2 z]
  refine LW_il F dL_law_698 0 rfl ?_
  refine LW_boolL F 707 dL_law_700 (by decide) dL_law_703 dL_law_704 (by decide) dL_law_707 ?_
  refine LW_lq F 714 dL_law_708 dL_law_709 (by decide) rfl ?_
  refine LW_go F 2682 dL_law_714 (by decide) ?_
  exact LW.sub [2, 3, 4, 5, 6] rfl (fin _ q)
theorem lc_8 {G : LG} {Ls : Nat} {xs : Nat → Int32} {kc t : Nat} {μ : zMem} (F : LF G Ls xs) (ht : t + 6 ≤ Ls) (hc : kc ≤ 1990) (hQ : QI μ) (fin : ∀ μ', QI μ' → LW G (kc + 3) 2682 (LL G t) [] μ') : LW G kc 717 (LL G t) [] μ := by
  obtain ⟨n, S, D, tn, tb, FF, T, K, M, hq⟩ := hQ
  refine LW_al F dL_law_717 rfl 1 rfl ?_
  refine LW_ld F 1 0 4 ht (by omega) dL_law_718 dL_law_719 dL_law_721 (by decide) dL_law_722 dL_law_723 rfl rfl ?_
  refine LW_ld F 2 0 4 ht (by omega) dL_law_724 dL_law_725 dL_law_727 (by decide) dL_law_728 dL_law_729 rfl rfl ?_
  refine LW_al F dL_law_730 rfl 3 rfl ?_
  refine LW_cW F (d := 99) (g := mL_rain) (sa := []) [.ref 0, .int (xs (t + 1)), .int (xs (t + 2)), .ref 143] (by decide) dL_law_731 (wGm 1037 (by decide +kernel) rfl) mgL_rain rfl rfl (by decide) (by omega) (wK_of (fun v => v.toInt64) (P_rain (d := 91) hq) (fun K h => cL_rain_ h)) (fun r m1 k1 hk => ?_)
  obtain ⟨c0, rfl, k1le, h3⟩ := hk
  refine ⟨_, rfl, k1le, ?_⟩
  show LW G (kc + 1) 734 (LL G t) [.int c0] m1
  refine LW_is F (L' := [(5, .int c0), (0, .ref (gB G)), (1, .ref (gA G 0)), (2, .ref (gA G 106)), (3, .ref (gA G 143)), (4, .int (nI t))]) dL_law_734 (by decide) rfl ?_
  refine LW_al F dL_law_736 rfl 3 rfl ?_
  refine LW_ld F 1 1 5 ht (by omega) dL_law_737 dL_law_738 dL_law_740 (by decide) dL_law_741 dL_law_742 rfl rfl ?_
  refine LW_ld F 2 1 5 ht (by omega) dL_law_743 dL_law_744 dL_law_746 (by decide) dL_law_747 dL_law_748 rfl rfl ?_
  refine LW_cVi F (d := 98) (g := mX9_rain) (sa := []) [.int (xs (t + 1)), .int (xs (t + 2))] (by decide) dL_law_749 (wGm 1799 (by decide +kernel) rfl) mgX9_rain rfl mvX9_rain (zrv zl106 _ rfl rfl) rfl rfl (Nat.le_of_ble_eq_true rfl) (by omega) (h3.imp (fun v m3 hk => ?_) (fun _ _ h => h))
  obtain ⟨e1, e2, q⟩ := hk
  refine LW_is F (L' := [(6, .int v), (5, .int c0), (0, .ref (gB G)), (1, .ref (gA G 0)), (2, .ref (gA G 106)), (3, .ref (gA G 143)), (4, .int (nI t))]) dL_law_752 (by decide) rfl ?_
  refine LW_al F dL_law_754 rfl 4 rfl ?_
  refine LW_cVi F (d := 98) (g := mX9_thrown) (sa := []) [] (by decide) dL_law_755 (wGm 1569 (by decide +kernel) rfl) mgX9_thrown rfl mvX9_thrown (zrv zl106 _ rfl rfl) rfl rfl (Nat.le_of_ble_eq_true rfl) (by omega) (cX9_thrown_ (d := 97) ?_)
  show LW G (kc + 3) 758 [(6, .int v), (5, .int c0), (0, .ref (gB G)), (1, .ref (gA G 0)), (2, .ref (gA G 106)), (3, .ref (gA G 143)), (4, .int (nI t))] [.int (m3 106 3)] m3
  refine LW_il F dL_law_758 1 rfl ?_
  refine LW_eq F 765 dL_law_760 (by decide) e1 ?_
  refine LW_il F dL_law_765 1 rfl ?_
  refine LW_ne0 F 782 dL_law_767 (by decide) (fun z => LW_go F 2682 dL_law_782 (by decide) (LW.sub [2, 3, 4, 5, 6] rfl (fin _ q))) (fun z => ?_)
  refine LW_al F dL_law_770 rfl 5 rfl ?_
  refine LW_ic F (v := 0) dL_law_771 (by decide) ?_
  refine LW_lald F dL_law_772 ?_
  rw [e2 z]
  refine LW_il F dL_law_773 0 rfl ?_
  refine LW_i2l F dL_law_775 ?_
  refine LW_lq F 782 dL_law_776 dL_law_777 (by decide) rfl ?_
  refine LW_go F 2682 dL_law_782 (by decide) ?_
  exact LW.sub [2, 3, 4, 5, 6] rfl (fin _ q)
theorem lc_9 {G : LG} {Ls : Nat} {xs : Nat → Int32} {kc t : Nat} {μ : zMem} (F : LF G Ls xs) (ht : t + 6 ≤ Ls) (hc : kc ≤ 1990) (hQ : QI μ) (fin : ∀ μ', QI μ' → LW G (kc + 3) 2682 (LL G t) [] μ') : LW G kc 785 (LL G t) [] μ := by
  obtain ⟨n, S, D, tn, tb, FF, T, K, M, hq⟩ := hQ
  refine LW_al F dL_law_785 rfl 1 rfl ?_
  refine LW_ld F 1 0 4 ht (by omega) dL_law_786 dL_law_787 dL_law_789 (by decide) dL_law_790 dL_law_791 rfl rfl ?_
  refine LW_ld F 2 0 4 ht (by omega) dL_law_792 dL_law_793 dL_law_795 (by decide) dL_law_796 dL_law_797 rfl rfl ?_
  refine LW_al F dL_law_798 rfl 3 rfl ?_
  refine LW_cW F (d := 99) (g := mL_winch) (sa := []) [.ref 0, .int (xs (t + 1)), .int (xs (t + 2)), .ref 143] (by decide) dL_law_799 (wGm 1053 (by decide +kernel) rfl) mgL_winch rfl rfl (by decide) (by omega) (wK_of (fun v => v.toInt64) (P_winch (d := 95) hq) (fun K h => cL_winch_ h)) (fun r m1 k1 hk => ?_)
  obtain ⟨c0, rfl, k1le, h3⟩ := hk
  refine ⟨_, rfl, k1le, ?_⟩
  show LW G (kc + 1) 802 (LL G t) [.int c0] m1
  refine LW_is F (L' := [(5, .int c0), (0, .ref (gB G)), (1, .ref (gA G 0)), (2, .ref (gA G 106)), (3, .ref (gA G 143)), (4, .int (nI t))]) dL_law_802 (by decide) rfl ?_
  refine LW_al F dL_law_804 rfl 3 rfl ?_
  refine LW_ld F 1 1 5 ht (by omega) dL_law_805 dL_law_806 dL_law_808 (by decide) dL_law_809 dL_law_810 rfl rfl ?_
  refine LW_ld F 2 1 5 ht (by omega) dL_law_811 dL_law_812 dL_law_814 (by decide) dL_law_815 dL_law_816 rfl rfl ?_
  refine LW_cVi F (d := 98) (g := mX9_winch) (sa := []) [.int (xs (t + 1)), .int (xs (t + 2))] (by decide) dL_law_817 (wGm 1807 (by decide +kernel) rfl) mgX9_winch rfl mvX9_winch (zrv zl106 _ rfl rfl) rfl rfl (Nat.le_of_ble_eq_true rfl) (by omega) (h3.imp (fun v m3 hk => ?_) (fun _ _ h => h))
  obtain ⟨e1, e2, q⟩ := hk
  refine LW_is F (L' := [(6, .int v), (5, .int c0), (0, .ref (gB G)), (1, .ref (gA G 0)), (2, .ref (gA G 106)), (3, .ref (gA G 143)), (4, .int (nI t))]) dL_law_820 (by decide) rfl ?_
  refine LW_al F dL_law_822 rfl 4 rfl ?_
  refine LW_cVi F (d := 98) (g := mX9_thrown) (sa := []) [] (by decide) dL_law_823 (wGm 1569 (by decide +kernel) rfl) mgX9_thrown rfl mvX9_thrown (zrv zl106 _ rfl rfl) rfl rfl (Nat.le_of_ble_eq_true rfl) (by omega) (cX9_thrown_ (d := 97) ?_)
  show LW G (kc + 3) 826 [(6, .int v), (5, .int c0), (0, .ref (gB G)), (1, .ref (gA G 0)), (2, .ref (gA G 106)), (3, .ref (gA G 143)), (4, .int (nI t))] [.int (m3 106 3)] m3
  refine LW_il F dL_law_826 1 rfl ?_
  refine LW_eq F 833 dL_law_828 (by decide) e1 ?_
  refine LW_il F dL_law_833 1 rfl ?_
  refine LW_ne0 F 850 dL_law_835 (by decide) (fun z => LW_go F 2682 dL_law_850 (by decide) (LW.sub [2, 3, 4, 5, 6] rfl (fin _ q))) (fun z => ?_)
  refine LW_al F dL_law_838 rfl 5 rfl ?_
  refine LW_ic F (v := 0) dL_law_839 (by decide) ?_
  refine LW_lald F dL_law_840 ?_
  rw [e2 z]
  refine LW_il F dL_law_841 0 rfl ?_
  refine LW_i2l F dL_law_843 ?_
  refine LW_lq F 850 dL_law_844 dL_law_845 (by decide) rfl ?_
  refine LW_go F 2682 dL_law_850 (by decide) ?_
  exact LW.sub [2, 3, 4, 5, 6] rfl (fin _ q)
theorem lc_10 {G : LG} {Ls : Nat} {xs : Nat → Int32} {kc t : Nat} {μ : zMem} (F : LF G Ls xs) (ht : t + 6 ≤ Ls) (hc : kc ≤ 1990) (hQ : QI μ) (fin : ∀ μ', QI μ' → LW G (kc + 3) 2682 (LL G t) [] μ') : LW G kc 853 (LL G t) [] μ := by
  obtain ⟨n, S, D, tn, tb, FF, T, K, M, hq⟩ := hQ
  refine LW_al F dL_law_853 rfl 1 rfl ?_
  refine LW_ld F 1 0 4 ht (by omega) dL_law_854 dL_law_855 dL_law_857 (by decide) dL_law_858 dL_law_859 rfl rfl ?_
  refine LW_ld F 2 0 4 ht (by omega) dL_law_860 dL_law_861 dL_law_863 (by decide) dL_law_864 dL_law_865 rfl rfl ?_
  refine LW_bool F 873 dL_law_866 (by decide) dL_law_869 dL_law_870 (by decide) dL_law_873 ?_
  refine LW_al F dL_law_874 rfl 3 rfl ?_
  refine LW_cW F (d := 99) (g := mL_knot) (sa := []) [.ref 0, .int (xs (t + 1)), .int (if xs (t + 2) = 0 then 0 else 1), .ref 143] (by decide) dL_law_875 (wGm 1068 (by decide +kernel) rfl) mgL_knot rfl rfl (by decide) (by omega) (wK_of (fun v => v.toInt64) (P_knot (d := 95) hq) (fun K h => cL_knot_ h)) (fun r m1 k1 hk => ?_)
  obtain ⟨c0, rfl, k1le, h3⟩ := hk
  refine ⟨_, rfl, k1le, ?_⟩
  show LW G (kc + 1) 878 (LL G t) [.int c0] m1
  refine LW_is F (L' := [(5, .int c0), (0, .ref (gB G)), (1, .ref (gA G 0)), (2, .ref (gA G 106)), (3, .ref (gA G 143)), (4, .int (nI t))]) dL_law_878 (by decide) rfl ?_
  refine LW_al F dL_law_880 rfl 3 rfl ?_
  refine LW_ld F 1 1 5 ht (by omega) dL_law_881 dL_law_882 dL_law_884 (by decide) dL_law_885 dL_law_886 rfl rfl ?_
  refine LW_ld F 2 1 5 ht (by omega) dL_law_887 dL_law_888 dL_law_890 (by decide) dL_law_891 dL_law_892 rfl rfl ?_
  refine LW_bool F 900 dL_law_893 (by decide) dL_law_896 dL_law_897 (by decide) dL_law_900 ?_
  refine LW_cVi F (d := 98) (g := mX9_knot) (sa := []) [.int (xs (t + 1)), .int (if xs (t + 2) = 0 then 0 else 1)] (by decide) dL_law_901 (wGm 1824 (by decide +kernel) rfl) mgX9_knot rfl mvX9_knot (zrv zl106 _ rfl rfl) rfl rfl (Nat.le_of_ble_eq_true rfl) (by omega) (h3.imp (fun v m3 hk => ?_) (fun _ _ h => h))
  obtain ⟨e1, e2, q⟩ := hk
  refine LW_is F (L' := [(6, .int v), (5, .int c0), (0, .ref (gB G)), (1, .ref (gA G 0)), (2, .ref (gA G 106)), (3, .ref (gA G 143)), (4, .int (nI t))]) dL_law_904 (by decide) rfl ?_
  refine LW_al F dL_law_906 rfl 4 rfl ?_
  refine LW_cVi F (d := 98) (g := mX9_thrown) (sa := []) [] (by decide) dL_law_907 (wGm 1569 (by decide +kernel) rfl) mgX9_thrown rfl mvX9_thrown (zrv zl106 _ rfl rfl) rfl rfl (Nat.le_of_ble_eq_true rfl) (by omega) (cX9_thrown_ (d := 97) ?_)
  show LW G (kc + 3) 910 [(6, .int v), (5, .int c0), (0, .ref (gB G)), (1, .ref (gA G 0)), (2, .ref (gA G 106)), (3, .ref (gA G 143)), (4, .int (nI t))] [.int (m3 106 3)] m3
  refine LW_il F dL_law_910 1 rfl ?_
  refine LW_eq F 917 dL_law_912 (by decide) e1 ?_
  refine LW_il F dL_law_917 1 rfl ?_
  refine LW_ne0 F 934 dL_law_919 (by decide) (fun z => LW_go F 2682 dL_law_934 (by decide) (LW.sub [2, 3, 4, 5, 6] rfl (fin _ q))) (fun z => ?_)
  refine LW_al F dL_law_922 rfl 5 rfl ?_
  refine LW_ic F (v := 0) dL_law_923 (by decide) ?_
  refine LW_lald F dL_law_924 ?_
  rw [e2 z]
  refine LW_il F dL_law_925 0 rfl ?_
  refine LW_i2l F dL_law_927 ?_
  refine LW_lq F 934 dL_law_928 dL_law_929 (by decide) rfl ?_
  refine LW_go F 2682 dL_law_934 (by decide) ?_
  exact LW.sub [2, 3, 4, 5, 6] rfl (fin _ q)
theorem lc_11 {G : LG} {Ls : Nat} {xs : Nat → Int32} {kc t : Nat} {μ : zMem} (F : LF G Ls xs) (ht : t + 6 ≤ Ls) (hc : kc ≤ 1990) (hQ : QI μ) (fin : ∀ μ', QI μ' → LW G (kc + 3) 2682 (LL G t) [] μ') : LW G kc 937 (LL G t) [] μ := by
  obtain ⟨n, S, D, tn, tb, FF, T, K, M, hq⟩ := hQ
  refine LW_al F dL_law_937 rfl 1 rfl ?_
  refine LW_ld F 1 0 4 ht (by omega) dL_law_938 dL_law_939 dL_law_941 (by decide) dL_law_942 dL_law_943 rfl rfl ?_
  refine LW_ld F 2 0 4 ht (by omega) dL_law_944 dL_law_945 dL_law_947 (by decide) dL_law_948 dL_law_949 rfl rfl ?_
  refine LW_al F dL_law_950 rfl 3 rfl ?_
  refine LW_cW F (d := 99) (g := mL_load) (sa := []) [.ref 0, .int (xs (t + 1)), .int (xs (t + 2)), .ref 143] (by decide) dL_law_951 (wGm 1075 (by decide +kernel) rfl) mgL_load rfl rfl (by decide) (by omega) (wK_of (fun v => v.toInt64) (P_load (d := 95) hq) (fun K h => cL_load_ h)) (fun r m1 k1 hk => ?_)
  obtain ⟨c0, rfl, k1le, h3⟩ := hk
  refine ⟨_, rfl, k1le, ?_⟩
  show LW G (kc + 1) 954 (LL G t) [.int c0] m1
  refine LW_is F (L' := [(5, .int c0), (0, .ref (gB G)), (1, .ref (gA G 0)), (2, .ref (gA G 106)), (3, .ref (gA G 143)), (4, .int (nI t))]) dL_law_954 (by decide) rfl ?_
  refine LW_al F dL_law_956 rfl 3 rfl ?_
  refine LW_ld F 1 1 5 ht (by omega) dL_law_957 dL_law_958 dL_law_960 (by decide) dL_law_961 dL_law_962 rfl rfl ?_
  refine LW_ld F 2 1 5 ht (by omega) dL_law_963 dL_law_964 dL_law_966 (by decide) dL_law_967 dL_law_968 rfl rfl ?_
  refine LW_cVi F (d := 98) (g := mX9_load) (sa := []) [.int (xs (t + 1)), .int (xs (t + 2))] (by decide) dL_law_969 (wGm 1828 (by decide +kernel) rfl) mgX9_load rfl mvX9_load (zrv zl106 _ rfl rfl) rfl rfl (Nat.le_of_ble_eq_true rfl) (by omega) (h3.imp (fun v m3 hk => ?_) (fun _ _ h => h))
  obtain ⟨e1, e2, q⟩ := hk
  refine LW_is F (L' := [(6, .int v), (5, .int c0), (0, .ref (gB G)), (1, .ref (gA G 0)), (2, .ref (gA G 106)), (3, .ref (gA G 143)), (4, .int (nI t))]) dL_law_972 (by decide) rfl ?_
  refine LW_al F dL_law_974 rfl 4 rfl ?_
  refine LW_cVi F (d := 98) (g := mX9_thrown) (sa := []) [] (by decide) dL_law_975 (wGm 1569 (by decide +kernel) rfl) mgX9_thrown rfl mvX9_thrown (zrv zl106 _ rfl rfl) rfl rfl (Nat.le_of_ble_eq_true rfl) (by omega) (cX9_thrown_ (d := 97) ?_)
  show LW G (kc + 3) 978 [(6, .int v), (5, .int c0), (0, .ref (gB G)), (1, .ref (gA G 0)), (2, .ref (gA G 106)), (3, .ref (gA G 143)), (4, .int (nI t))] [.int (m3 106 3)] m3
  refine LW_il F dL_law_978 1 rfl ?_
  refine LW_eq F 985 dL_law_980 (by decide) e1 ?_
  refine LW_il F dL_law_985 1 rfl ?_
  refine LW_ne0 F 1002 dL_law_987 (by decide) (fun z => LW_go F 2682 dL_law_1002 (by decide) (LW.sub [2, 3, 4, 5, 6] rfl (fin _ q))) (fun z => ?_)
  refine LW_al F dL_law_990 rfl 5 rfl ?_
  refine LW_ic F (v := 0) dL_law_991 (by decide) ?_
  refine LW_lald F dL_law_992 ?_
  rw [e2 z]
  refine LW_il F dL_law_993 0 rfl ?_
  refine LW_i2l F dL_law_995 ?_
  refine LW_lq F 1002 dL_law_996 dL_law_997 (by decide) rfl ?_
  refine LW_go F 2682 dL_law_1002 (by decide) ?_
  exact LW.sub [2, 3, 4, 5, 6] rfl (fin _ q)
theorem lc_12 {G : LG} {Ls : Nat} {xs : Nat → Int32} {kc t : Nat} {μ : zMem} (F : LF G Ls xs) (ht : t + 6 ≤ Ls) (hc : kc ≤ 1990) (hQ : QI μ) (fin : ∀ μ', QI μ' → LW G (kc + 3) 2682 (LL G t) [] μ') : LW G kc 1005 (LL G t) [] μ := by
  obtain ⟨n, S, D, tn, tb, FF, T, K, M, hq⟩ := hQ
  refine LW_al F dL_law_1005 rfl 1 rfl ?_
  refine LW_ld F 1 0 4 ht (by omega) dL_law_1006 dL_law_1007 dL_law_1009 (by decide) dL_law_1010 dL_law_1011 rfl rfl ?_
  refine LW_ld F 2 0 4 ht (by omega) dL_law_1012 dL_law_1013 dL_law_1015 (by decide) dL_law_1016 dL_law_1017 rfl rfl ?_
  refine LW_ld F 3 0 4 ht (by omega) dL_law_1018 dL_law_1019 dL_law_1021 (by decide) dL_law_1022 dL_law_1023 rfl rfl ?_
  refine LW_al F dL_law_1024 rfl 3 rfl ?_
  refine LW_cW F (d := 99) (g := mL_goat) (sa := []) [.ref 0, .int (xs (t + 1)), .int (xs (t + 2)), .int (xs (t + 3)), .ref 143] (by decide) dL_law_1025 (wGm 1082 (by decide +kernel) rfl) mgL_goat rfl rfl (by decide) (by omega) (wK_of (fun v => if v = 0 then 0 else 1) (P_goat (d := 91) hq) (fun K h => cL_goat_ h)) (fun r m1 k1 hk => ?_)
  obtain ⟨c0, rfl, k1le, h3⟩ := hk
  refine ⟨_, rfl, k1le, ?_⟩
  show LW G (kc + 1) 1028 (LL G t) [.int c0] m1
  refine LW_is F (L' := [(5, .int c0), (0, .ref (gB G)), (1, .ref (gA G 0)), (2, .ref (gA G 106)), (3, .ref (gA G 143)), (4, .int (nI t))]) dL_law_1028 (by decide) rfl ?_
  refine LW_al F dL_law_1030 rfl 3 rfl ?_
  refine LW_ld F 1 1 5 ht (by omega) dL_law_1031 dL_law_1032 dL_law_1034 (by decide) dL_law_1035 dL_law_1036 rfl rfl ?_
  refine LW_ld F 2 1 5 ht (by omega) dL_law_1037 dL_law_1038 dL_law_1040 (by decide) dL_law_1041 dL_law_1042 rfl rfl ?_
  refine LW_ld F 3 1 5 ht (by omega) dL_law_1043 dL_law_1044 dL_law_1046 (by decide) dL_law_1047 dL_law_1048 rfl rfl ?_
  refine LW_cVi F (d := 98) (g := mX9_goat) (sa := []) [.int (xs (t + 1)), .int (xs (t + 2)), .int (xs (t + 3))] (by decide) dL_law_1049 (wGm 1832 (by decide +kernel) rfl) mgX9_goat rfl mvX9_goat (zrv zl106 _ rfl rfl) rfl rfl (Nat.le_of_ble_eq_true rfl) (by omega) (h3.imp (fun v m3 hk => ?_) (fun _ _ h => h))
  obtain ⟨e1, e2, q⟩ := hk
  refine LW_is F (L' := [(6, .int v), (5, .int c0), (0, .ref (gB G)), (1, .ref (gA G 0)), (2, .ref (gA G 106)), (3, .ref (gA G 143)), (4, .int (nI t))]) dL_law_1052 (by decide) rfl ?_
  refine LW_al F dL_law_1054 rfl 4 rfl ?_
  refine LW_cVi F (d := 98) (g := mX9_thrown) (sa := []) [] (by decide) dL_law_1055 (wGm 1569 (by decide +kernel) rfl) mgX9_thrown rfl mvX9_thrown (zrv zl106 _ rfl rfl) rfl rfl (Nat.le_of_ble_eq_true rfl) (by omega) (cX9_thrown_ (d := 97) ?_)
  show LW G (kc + 3) 1058 [(6, .int v), (5, .int c0), (0, .ref (gB G)), (1, .ref (gA G 0)), (2, .ref (gA G 106)), (3, .ref (gA G 143)), (4, .int (nI t))] [.int (m3 106 3)] m3
  refine LW_il F dL_law_1058 1 rfl ?_
  refine LW_eq F 1065 dL_law_1060 (by decide) e1 ?_
  refine LW_il F dL_law_1065 1 rfl ?_
  refine LW_ne0 F 1089 dL_law_1067 (by decide) (fun z => LW_go F 2682 dL_law_1089 (by decide) (LW.sub [2, 3, 4, 5, 6] rfl (fin _ q))) (fun z => ?_)
  refine LW_al F dL_law_1070 rfl 5 rfl ?_
  refine LW_ic F (v := 0) dL_law_1071 (by decide) ?_
  refine LW_lald F dL_law_1072 ?_
  rw [e2 z]
  refine LW_il F dL_law_1073 0 rfl ?_
  refine LW_boolL F 1082 dL_law_1075 (by decide) dL_law_1078 dL_law_1079 (by decide) dL_law_1082 ?_
  refine LW_lq F 1089 dL_law_1083 dL_law_1084 (by decide) rfl ?_
  refine LW_go F 2682 dL_law_1089 (by decide) ?_
  exact LW.sub [2, 3, 4, 5, 6] rfl (fin _ q)
theorem lc_13 {G : LG} {Ls : Nat} {xs : Nat → Int32} {kc t : Nat} {μ : zMem} (F : LF G Ls xs) (ht : t + 6 ≤ Ls) (hc : kc ≤ 1990) (hQ : QI μ) (fin : ∀ μ', QI μ' → LW G (kc + 3) 2682 (LL G t) [] μ') : LW G kc 1092 (LL G t) [] μ := by
  obtain ⟨n, S, D, tn, tb, FF, T, K, M, hq⟩ := hQ
  refine LW_al F dL_law_1092 rfl 1 rfl ?_
  refine LW_ld F 1 0 4 ht (by omega) dL_law_1093 dL_law_1094 dL_law_1096 (by decide) dL_law_1097 dL_law_1098 rfl rfl ?_
  refine LW_ld F 2 0 4 ht (by omega) dL_law_1099 dL_law_1100 dL_law_1102 (by decide) dL_law_1103 dL_law_1104 rfl rfl ?_
  refine LW_ld F 3 0 4 ht (by omega) dL_law_1105 dL_law_1106 dL_law_1108 (by decide) dL_law_1109 dL_law_1110 rfl rfl ?_
  refine LW_ld F 4 0 4 ht (by omega) dL_law_1111 dL_law_1112 dL_law_1114 (by decide) dL_law_1115 dL_law_1116 rfl rfl ?_
  refine LW_al F dL_law_1117 rfl 3 rfl ?_
  refine LW_cW F (d := 99) (g := mL_walk) (sa := []) [.ref 0, .int (xs (t + 1)), .int (xs (t + 2)), .int (xs (t + 3)), .int (xs (t + 4)), .ref 143] (by decide) dL_law_1118 (wGm 1093 (by decide +kernel) rfl) mgL_walk rfl rfl (by decide) (by omega) (wK_of (fun v => v.toInt64) (P_walk (d := 95) hq) (fun K h => cL_walk_ h)) (fun r m1 k1 hk => ?_)
  obtain ⟨c0, rfl, k1le, h3⟩ := hk
  refine ⟨_, rfl, k1le, ?_⟩
  show LW G (kc + 1) 1121 (LL G t) [.int c0] m1
  refine LW_is F (L' := [(5, .int c0), (0, .ref (gB G)), (1, .ref (gA G 0)), (2, .ref (gA G 106)), (3, .ref (gA G 143)), (4, .int (nI t))]) dL_law_1121 (by decide) rfl ?_
  refine LW_al F dL_law_1123 rfl 3 rfl ?_
  refine LW_ld F 1 1 5 ht (by omega) dL_law_1124 dL_law_1125 dL_law_1127 (by decide) dL_law_1128 dL_law_1129 rfl rfl ?_
  refine LW_ld F 2 1 5 ht (by omega) dL_law_1130 dL_law_1131 dL_law_1133 (by decide) dL_law_1134 dL_law_1135 rfl rfl ?_
  refine LW_ld F 3 1 5 ht (by omega) dL_law_1136 dL_law_1137 dL_law_1139 (by decide) dL_law_1140 dL_law_1141 rfl rfl ?_
  refine LW_ld F 4 1 5 ht (by omega) dL_law_1142 dL_law_1143 dL_law_1145 (by decide) dL_law_1146 dL_law_1147 rfl rfl ?_
  refine LW_cVi F (d := 98) (g := mX9_walk) (sa := []) [.int (xs (t + 1)), .int (xs (t + 2)), .int (xs (t + 3)), .int (xs (t + 4))] (by decide) dL_law_1148 (wGm 1836 (by decide +kernel) rfl) mgX9_walk rfl mvX9_walk (zrv zl106 _ rfl rfl) rfl rfl (Nat.le_of_ble_eq_true rfl) (by omega) (h3.imp (fun v m3 hk => ?_) (fun _ _ h => h))
  obtain ⟨e1, e2, q⟩ := hk
  refine LW_is F (L' := [(6, .int v), (5, .int c0), (0, .ref (gB G)), (1, .ref (gA G 0)), (2, .ref (gA G 106)), (3, .ref (gA G 143)), (4, .int (nI t))]) dL_law_1151 (by decide) rfl ?_
  refine LW_al F dL_law_1153 rfl 4 rfl ?_
  refine LW_cVi F (d := 98) (g := mX9_thrown) (sa := []) [] (by decide) dL_law_1154 (wGm 1569 (by decide +kernel) rfl) mgX9_thrown rfl mvX9_thrown (zrv zl106 _ rfl rfl) rfl rfl (Nat.le_of_ble_eq_true rfl) (by omega) (cX9_thrown_ (d := 97) ?_)
  show LW G (kc + 3) 1157 [(6, .int v), (5, .int c0), (0, .ref (gB G)), (1, .ref (gA G 0)), (2, .ref (gA G 106)), (3, .ref (gA G 143)), (4, .int (nI t))] [.int (m3 106 3)] m3
  refine LW_il F dL_law_1157 1 rfl ?_
  refine LW_eq F 1164 dL_law_1159 (by decide) e1 ?_
  refine LW_il F dL_law_1164 1 rfl ?_
  refine LW_ne0 F 1181 dL_law_1166 (by decide) (fun z => LW_go F 2682 dL_law_1181 (by decide) (LW.sub [2, 3, 4, 5, 6] rfl (fin _ q))) (fun z => ?_)
  refine LW_al F dL_law_1169 rfl 5 rfl ?_
  refine LW_ic F (v := 0) dL_law_1170 (by decide) ?_
  refine LW_lald F dL_law_1171 ?_
  rw [e2 z]
  refine LW_il F dL_law_1172 0 rfl ?_
  refine LW_i2l F dL_law_1174 ?_
  refine LW_lq F 1181 dL_law_1175 dL_law_1176 (by decide) rfl ?_
  refine LW_go F 2682 dL_law_1181 (by decide) ?_
  exact LW.sub [2, 3, 4, 5, 6] rfl (fin _ q)
theorem lc_14 {G : LG} {Ls : Nat} {xs : Nat → Int32} {kc t : Nat} {μ : zMem} (F : LF G Ls xs) (ht : t + 6 ≤ Ls) (hc : kc ≤ 1990) (hQ : QI μ) (fin : ∀ μ', QI μ' → LW G (kc + 3) 2682 (LL G t) [] μ') : LW G kc 1184 (LL G t) [] μ := by
  obtain ⟨n, S, D, tn, tb, FF, T, K, M, hq⟩ := hQ
  refine LW_al F dL_law_1184 rfl 1 rfl ?_
  refine LW_cVi F (d := 98) (g := mX8_undo) (sa := []) [] (by decide) dL_law_1185 (wGm 494 (by decide +kernel) rfl) mgX8_undo rfl mvX8_undo (zrv zl0 _ rfl rfl) rfl rfl (Nat.le_of_ble_eq_true rfl) (by omega) ((P_undo (d := 96) hq) _ zNo (fun v1 m1 f1 h2 => ?_) (fun E m1 _ _ z => absurd rfl z))
  refine LW_al F dL_law_1188 rfl 2 rfl ?_
  refine LW_cVi F (d := 98) (g := mX9_undo) (sa := [.int v1]) [] (by decide) dL_law_1189 (wGm 1840 (by decide +kernel) rfl) mgX9_undo rfl mvX9_undo (zrv zl106 _ rfl rfl) rfl rfl (Nat.le_of_ble_eq_true rfl) (by omega) ((h2 m1 Fr.rf).imp (fun v m3 hk => ?_) (fun _ _ h => h))
  obtain ⟨-, e2, q, -⟩ := hk
  refine LW_eq F 2682 dL_law_1192 (by decide) e2.symm ?_
  exact LW.le (kc' := kc + 3) (by omega) (fin _ q)
theorem lc_15 {G : LG} {Ls : Nat} {xs : Nat → Int32} {kc t : Nat} {μ : zMem} (F : LF G Ls xs) (ht : t + 6 ≤ Ls) (hc : kc ≤ 1990) (hQ : QI μ) (fin : ∀ μ', QI μ' → LW G (kc + 3) 2682 (LL G t) [] μ') : LW G kc 1197 (LL G t) [] μ := by
  obtain ⟨n, S, D, tn, tb, FF, T, K, M, hq⟩ := hQ
  refine LW_al F dL_law_1197 rfl 1 rfl ?_
  refine LW_ld F 1 0 4 ht (by omega) dL_law_1198 dL_law_1199 dL_law_1201 (by decide) dL_law_1202 dL_law_1203 rfl rfl ?_
  refine LW_ld F 2 0 4 ht (by omega) dL_law_1204 dL_law_1205 dL_law_1207 (by decide) dL_law_1208 dL_law_1209 rfl rfl ?_
  refine LW_ld F 3 0 4 ht (by omega) dL_law_1210 dL_law_1211 dL_law_1213 (by decide) dL_law_1214 dL_law_1215 rfl rfl ?_
  refine LW_al F dL_law_1216 rfl 3 rfl ?_
  refine LW_cW F (d := 99) (g := mL_knock) (sa := []) [.ref 0, .int (xs (t + 1)), .int (xs (t + 2)), .int (xs (t + 3)), .ref 143] (by decide) dL_law_1217 (wGm 1104 (by decide +kernel) rfl) mgL_knock rfl rfl (by decide) (by omega) (wK_of (fun v => v.toInt64) (P_knock (d := 91) hq) (fun K h => cL_knock_ h)) (fun r m1 k1 hk => ?_)
  obtain ⟨c0, rfl, k1le, h3⟩ := hk
  refine ⟨_, rfl, k1le, ?_⟩
  show LW G (kc + 1) 1220 (LL G t) [.int c0] m1
  refine LW_is F (L' := [(5, .int c0), (0, .ref (gB G)), (1, .ref (gA G 0)), (2, .ref (gA G 106)), (3, .ref (gA G 143)), (4, .int (nI t))]) dL_law_1220 (by decide) rfl ?_
  refine LW_al F dL_law_1222 rfl 3 rfl ?_
  refine LW_ld F 1 1 5 ht (by omega) dL_law_1223 dL_law_1224 dL_law_1226 (by decide) dL_law_1227 dL_law_1228 rfl rfl ?_
  refine LW_ld F 2 1 5 ht (by omega) dL_law_1229 dL_law_1230 dL_law_1232 (by decide) dL_law_1233 dL_law_1234 rfl rfl ?_
  refine LW_ld F 3 1 5 ht (by omega) dL_law_1235 dL_law_1236 dL_law_1238 (by decide) dL_law_1239 dL_law_1240 rfl rfl ?_
  refine LW_cVi F (d := 98) (g := mX9_knock) (sa := []) [.int (xs (t + 1)), .int (xs (t + 2)), .int (xs (t + 3))] (by decide) dL_law_1241 (wGm 1844 (by decide +kernel) rfl) mgX9_knock rfl mvX9_knock (zrv zl106 _ rfl rfl) rfl rfl (Nat.le_of_ble_eq_true rfl) (by omega) (h3.imp (fun v m3 hk => ?_) (fun _ _ h => h))
  obtain ⟨e1, e2, q⟩ := hk
  refine LW_is F (L' := [(6, .int v), (5, .int c0), (0, .ref (gB G)), (1, .ref (gA G 0)), (2, .ref (gA G 106)), (3, .ref (gA G 143)), (4, .int (nI t))]) dL_law_1244 (by decide) rfl ?_
  refine LW_al F dL_law_1246 rfl 4 rfl ?_
  refine LW_cVi F (d := 98) (g := mX9_thrown) (sa := []) [] (by decide) dL_law_1247 (wGm 1569 (by decide +kernel) rfl) mgX9_thrown rfl mvX9_thrown (zrv zl106 _ rfl rfl) rfl rfl (Nat.le_of_ble_eq_true rfl) (by omega) (cX9_thrown_ (d := 97) ?_)
  show LW G (kc + 3) 1250 [(6, .int v), (5, .int c0), (0, .ref (gB G)), (1, .ref (gA G 0)), (2, .ref (gA G 106)), (3, .ref (gA G 143)), (4, .int (nI t))] [.int (m3 106 3)] m3
  refine LW_il F dL_law_1250 1 rfl ?_
  refine LW_eq F 1257 dL_law_1252 (by decide) e1 ?_
  refine LW_il F dL_law_1257 1 rfl ?_
  refine LW_ne0 F 1274 dL_law_1259 (by decide) (fun z => LW_go F 2682 dL_law_1274 (by decide) (LW.sub [2, 3, 4, 5, 6] rfl (fin _ q))) (fun z => ?_)
  refine LW_al F dL_law_1262 rfl 5 rfl ?_
  refine LW_ic F (v := 0) dL_law_1263 (by decide) ?_
  refine LW_lald F dL_law_1264 ?_
  rw [e2 z]
  refine LW_il F dL_law_1265 0 rfl ?_
  refine LW_i2l F dL_law_1267 ?_
  refine LW_lq F 1274 dL_law_1268 dL_law_1269 (by decide) rfl ?_
  refine LW_go F 2682 dL_law_1274 (by decide) ?_
  exact LW.sub [2, 3, 4, 5, 6] rfl (fin _ q)
theorem lc_16 {G : LG} {Ls : Nat} {xs : Nat → Int32} {kc t : Nat} {μ : zMem} (F : LF G Ls xs) (ht : t + 6 ≤ Ls) (hc : kc ≤ 1990) (hQ : QI μ) (fin : ∀ μ', QI μ' → LW G (kc + 3) 2682 (LL G t) [] μ') : LW G kc 1277 (LL G t) [] μ := by
  obtain ⟨n, S, D, tn, tb, FF, T, K, M, hq⟩ := hQ
  refine LW_al F dL_law_1277 rfl 1 rfl ?_
  refine LW_ld F 1 0 4 ht (by omega) dL_law_1278 dL_law_1279 dL_law_1281 (by decide) dL_law_1282 dL_law_1283 rfl rfl ?_
  refine LW_ld F 2 0 4 ht (by omega) dL_law_1284 dL_law_1285 dL_law_1287 (by decide) dL_law_1288 dL_law_1289 rfl rfl ?_
  refine LW_ld F 3 0 4 ht (by omega) dL_law_1290 dL_law_1291 dL_law_1293 (by decide) dL_law_1294 dL_law_1295 rfl rfl ?_
  refine LW_al F dL_law_1296 rfl 3 rfl ?_
  refine LW_cW F (d := 99) (g := mL_shade) (sa := []) [.ref 0, .int (xs (t + 1)), .int (xs (t + 2)), .int (xs (t + 3)), .ref 143] (by decide) dL_law_1297 (wGm 1120 (by decide +kernel) rfl) mgL_shade rfl rfl (by decide) (by omega) (wK_of (fun v => v.toInt64) (P_shade (d := 90) hq) (fun K h => cL_shade_ h)) (fun r m1 k1 hk => ?_)
  obtain ⟨c0, rfl, k1le, h3⟩ := hk
  refine ⟨_, rfl, k1le, ?_⟩
  show LW G (kc + 1) 1300 (LL G t) [.int c0] m1
  refine LW_is F (L' := [(5, .int c0), (0, .ref (gB G)), (1, .ref (gA G 0)), (2, .ref (gA G 106)), (3, .ref (gA G 143)), (4, .int (nI t))]) dL_law_1300 (by decide) rfl ?_
  refine LW_al F dL_law_1302 rfl 3 rfl ?_
  refine LW_ld F 1 1 5 ht (by omega) dL_law_1303 dL_law_1304 dL_law_1306 (by decide) dL_law_1307 dL_law_1308 rfl rfl ?_
  refine LW_ld F 2 1 5 ht (by omega) dL_law_1309 dL_law_1310 dL_law_1312 (by decide) dL_law_1313 dL_law_1314 rfl rfl ?_
  refine LW_ld F 3 1 5 ht (by omega) dL_law_1315 dL_law_1316 dL_law_1318 (by decide) dL_law_1319 dL_law_1320 rfl rfl ?_
  refine LW_cVi F (d := 98) (g := mX9_shade) (sa := []) [.int (xs (t + 1)), .int (xs (t + 2)), .int (xs (t + 3))] (by decide) dL_law_1321 (wGm 1855 (by decide +kernel) rfl) mgX9_shade rfl mvX9_shade (zrv zl106 _ rfl rfl) rfl rfl (Nat.le_of_ble_eq_true rfl) (by omega) (h3.imp (fun v m3 hk => ?_) (fun _ _ h => h))
  obtain ⟨e1, e2, q⟩ := hk
  refine LW_is F (L' := [(6, .int v), (5, .int c0), (0, .ref (gB G)), (1, .ref (gA G 0)), (2, .ref (gA G 106)), (3, .ref (gA G 143)), (4, .int (nI t))]) dL_law_1324 (by decide) rfl ?_
  refine LW_al F dL_law_1326 rfl 4 rfl ?_
  refine LW_cVi F (d := 98) (g := mX9_thrown) (sa := []) [] (by decide) dL_law_1327 (wGm 1569 (by decide +kernel) rfl) mgX9_thrown rfl mvX9_thrown (zrv zl106 _ rfl rfl) rfl rfl (Nat.le_of_ble_eq_true rfl) (by omega) (cX9_thrown_ (d := 97) ?_)
  show LW G (kc + 3) 1330 [(6, .int v), (5, .int c0), (0, .ref (gB G)), (1, .ref (gA G 0)), (2, .ref (gA G 106)), (3, .ref (gA G 143)), (4, .int (nI t))] [.int (m3 106 3)] m3
  refine LW_il F dL_law_1330 1 rfl ?_
  refine LW_eq F 1337 dL_law_1332 (by decide) e1 ?_
  refine LW_il F dL_law_1337 1 rfl ?_
  refine LW_ne0 F 1354 dL_law_1339 (by decide) (fun z => LW_go F 2682 dL_law_1354 (by decide) (LW.sub [2, 3, 4, 5, 6] rfl (fin _ q))) (fun z => ?_)
  refine LW_al F dL_law_1342 rfl 5 rfl ?_
  refine LW_ic F (v := 0) dL_law_1343 (by decide) ?_
  refine LW_lald F dL_law_1344 ?_
  rw [e2 z]
  refine LW_il F dL_law_1345 0 rfl ?_
  refine LW_i2l F dL_law_1347 ?_
  refine LW_lq F 1354 dL_law_1348 dL_law_1349 (by decide) rfl ?_
  refine LW_go F 2682 dL_law_1354 (by decide) ?_
  exact LW.sub [2, 3, 4, 5, 6] rfl (fin _ q)
theorem lc_17 {G : LG} {Ls : Nat} {xs : Nat → Int32} {kc t : Nat} {μ : zMem} (F : LF G Ls xs) (ht : t + 6 ≤ Ls) (hc : kc ≤ 1990) (hQ : QI μ) (fin : ∀ μ', QI μ' → LW G (kc + 3) 2682 (LL G t) [] μ') : LW G kc 1357 (LL G t) [] μ := by
  obtain ⟨n, S, D, tn, tb, FF, T, K, M, hq⟩ := hQ
  refine LW_al F dL_law_1357 rfl 1 rfl ?_
  refine LW_ld F 1 0 4 ht (by omega) dL_law_1358 dL_law_1359 dL_law_1361 (by decide) dL_law_1362 dL_law_1363 rfl rfl ?_
  refine LW_ld F 2 0 4 ht (by omega) dL_law_1364 dL_law_1365 dL_law_1367 (by decide) dL_law_1368 dL_law_1369 rfl rfl ?_
  refine LW_ld F 3 0 4 ht (by omega) dL_law_1370 dL_law_1371 dL_law_1373 (by decide) dL_law_1374 dL_law_1375 rfl rfl ?_
  refine LW_al F dL_law_1376 rfl 3 rfl ?_
  refine LW_cW F (d := 99) (g := mL_wet) (sa := []) [.ref 0, .int (xs (t + 1)), .int (xs (t + 2)), .int (xs (t + 3)), .ref 143] (by decide) dL_law_1377 (wGm 1127 (by decide +kernel) rfl) mgL_wet rfl rfl (by decide) (by omega) (wK_of (fun v => v.toInt64) (P_wet (d := 90) hq) (fun K h => cL_wet_ h)) (fun r m1 k1 hk => ?_)
  obtain ⟨c0, rfl, k1le, h3⟩ := hk
  refine ⟨_, rfl, k1le, ?_⟩
  show LW G (kc + 1) 1380 (LL G t) [.int c0] m1
  refine LW_is F (L' := [(5, .int c0), (0, .ref (gB G)), (1, .ref (gA G 0)), (2, .ref (gA G 106)), (3, .ref (gA G 143)), (4, .int (nI t))]) dL_law_1380 (by decide) rfl ?_
  refine LW_al F dL_law_1382 rfl 3 rfl ?_
  refine LW_ld F 1 1 5 ht (by omega) dL_law_1383 dL_law_1384 dL_law_1386 (by decide) dL_law_1387 dL_law_1388 rfl rfl ?_
  refine LW_ld F 2 1 5 ht (by omega) dL_law_1389 dL_law_1390 dL_law_1392 (by decide) dL_law_1393 dL_law_1394 rfl rfl ?_
  refine LW_ld F 3 1 5 ht (by omega) dL_law_1395 dL_law_1396 dL_law_1398 (by decide) dL_law_1399 dL_law_1400 rfl rfl ?_
  refine LW_cVi F (d := 98) (g := mX9_wet) (sa := []) [.int (xs (t + 1)), .int (xs (t + 2)), .int (xs (t + 3))] (by decide) dL_law_1401 (wGm 1863 (by decide +kernel) rfl) mgX9_wet rfl mvX9_wet (zrv zl106 _ rfl rfl) rfl rfl (Nat.le_of_ble_eq_true rfl) (by omega) (h3.imp (fun v m3 hk => ?_) (fun _ _ h => h))
  obtain ⟨e1, e2, q⟩ := hk
  refine LW_is F (L' := [(6, .int v), (5, .int c0), (0, .ref (gB G)), (1, .ref (gA G 0)), (2, .ref (gA G 106)), (3, .ref (gA G 143)), (4, .int (nI t))]) dL_law_1404 (by decide) rfl ?_
  refine LW_al F dL_law_1406 rfl 4 rfl ?_
  refine LW_cVi F (d := 98) (g := mX9_thrown) (sa := []) [] (by decide) dL_law_1407 (wGm 1569 (by decide +kernel) rfl) mgX9_thrown rfl mvX9_thrown (zrv zl106 _ rfl rfl) rfl rfl (Nat.le_of_ble_eq_true rfl) (by omega) (cX9_thrown_ (d := 97) ?_)
  show LW G (kc + 3) 1410 [(6, .int v), (5, .int c0), (0, .ref (gB G)), (1, .ref (gA G 0)), (2, .ref (gA G 106)), (3, .ref (gA G 143)), (4, .int (nI t))] [.int (m3 106 3)] m3
  refine LW_il F dL_law_1410 1 rfl ?_
  refine LW_eq F 1417 dL_law_1412 (by decide) e1 ?_
  refine LW_il F dL_law_1417 1 rfl ?_
  refine LW_ne0 F 1434 dL_law_1419 (by decide) (fun z => LW_go F 2682 dL_law_1434 (by decide) (LW.sub [2, 3, 4, 5, 6] rfl (fin _ q))) (fun z => ?_)
  refine LW_al F dL_law_1422 rfl 5 rfl ?_
  refine LW_ic F (v := 0) dL_law_1423 (by decide) ?_
  refine LW_lald F dL_law_1424 ?_
  rw [e2 z]
  refine LW_il F dL_law_1425 0 rfl ?_
  refine LW_i2l F dL_law_1427 ?_
  refine LW_lq F 1434 dL_law_1428 dL_law_1429 (by decide) rfl ?_
  refine LW_go F 2682 dL_law_1434 (by decide) ?_
  exact LW.sub [2, 3, 4, 5, 6] rfl (fin _ q)
theorem lc_18 {G : LG} {Ls : Nat} {xs : Nat → Int32} {kc t : Nat} {μ : zMem} (F : LF G Ls xs) (ht : t + 6 ≤ Ls) (hc : kc ≤ 1990) (hQ : QI μ) (fin : ∀ μ', QI μ' → LW G (kc + 3) 2682 (LL G t) [] μ') : LW G kc 1437 (LL G t) [] μ := by
  obtain ⟨n, S, D, tn, tb, FF, T, K, M, hq⟩ := hQ
  refine LW_al F dL_law_1437 rfl 1 rfl ?_
  refine LW_ld F 1 0 4 ht (by omega) dL_law_1438 dL_law_1439 dL_law_1441 (by decide) dL_law_1442 dL_law_1443 rfl rfl ?_
  refine LW_ld F 2 0 4 ht (by omega) dL_law_1444 dL_law_1445 dL_law_1447 (by decide) dL_law_1448 dL_law_1449 rfl rfl ?_
  refine LW_ld F 3 0 4 ht (by omega) dL_law_1450 dL_law_1451 dL_law_1453 (by decide) dL_law_1454 dL_law_1455 rfl rfl ?_
  refine LW_ld F 4 0 4 ht (by omega) dL_law_1456 dL_law_1457 dL_law_1459 (by decide) dL_law_1460 dL_law_1461 rfl rfl ?_
  refine LW_al F dL_law_1462 rfl 3 rfl ?_
  refine LW_cW F (d := 99) (g := mL_winds) (sa := []) [.ref 0, .int (xs (t + 1)), .int (xs (t + 2)), .int (xs (t + 3)), .int (xs (t + 4)), .ref 143] (by decide) dL_law_1463 (wGm 1142 (by decide +kernel) rfl) mgL_winds rfl rfl (by decide) (by omega) (wK_of (fun v => v.toInt64) (P_winds (d := 91) hq) (fun K h => cL_winds_ h)) (fun r m1 k1 hk => ?_)
  obtain ⟨c0, rfl, k1le, h3⟩ := hk
  refine ⟨_, rfl, k1le, ?_⟩
  show LW G (kc + 1) 1466 (LL G t) [.int c0] m1
  refine LW_is F (L' := [(5, .int c0), (0, .ref (gB G)), (1, .ref (gA G 0)), (2, .ref (gA G 106)), (3, .ref (gA G 143)), (4, .int (nI t))]) dL_law_1466 (by decide) rfl ?_
  refine LW_al F dL_law_1468 rfl 3 rfl ?_
  refine LW_ld F 1 1 5 ht (by omega) dL_law_1469 dL_law_1470 dL_law_1472 (by decide) dL_law_1473 dL_law_1474 rfl rfl ?_
  refine LW_ld F 2 1 5 ht (by omega) dL_law_1475 dL_law_1476 dL_law_1478 (by decide) dL_law_1479 dL_law_1480 rfl rfl ?_
  refine LW_ld F 3 1 5 ht (by omega) dL_law_1481 dL_law_1482 dL_law_1484 (by decide) dL_law_1485 dL_law_1486 rfl rfl ?_
  refine LW_ld F 4 1 5 ht (by omega) dL_law_1487 dL_law_1488 dL_law_1490 (by decide) dL_law_1491 dL_law_1492 rfl rfl ?_
  refine LW_cVi F (d := 98) (g := mX9_winds) (sa := []) [.int (xs (t + 1)), .int (xs (t + 2)), .int (xs (t + 3)), .int (xs (t + 4))] (by decide) dL_law_1493 (wGm 1867 (by decide +kernel) rfl) mgX9_winds rfl mvX9_winds (zrv zl106 _ rfl rfl) rfl rfl (Nat.le_of_ble_eq_true rfl) (by omega) (h3.imp (fun v m3 hk => ?_) (fun _ _ h => h))
  obtain ⟨e1, e2, q⟩ := hk
  refine LW_is F (L' := [(6, .int v), (5, .int c0), (0, .ref (gB G)), (1, .ref (gA G 0)), (2, .ref (gA G 106)), (3, .ref (gA G 143)), (4, .int (nI t))]) dL_law_1496 (by decide) rfl ?_
  refine LW_al F dL_law_1498 rfl 4 rfl ?_
  refine LW_cVi F (d := 98) (g := mX9_thrown) (sa := []) [] (by decide) dL_law_1499 (wGm 1569 (by decide +kernel) rfl) mgX9_thrown rfl mvX9_thrown (zrv zl106 _ rfl rfl) rfl rfl (Nat.le_of_ble_eq_true rfl) (by omega) (cX9_thrown_ (d := 97) ?_)
  show LW G (kc + 3) 1502 [(6, .int v), (5, .int c0), (0, .ref (gB G)), (1, .ref (gA G 0)), (2, .ref (gA G 106)), (3, .ref (gA G 143)), (4, .int (nI t))] [.int (m3 106 3)] m3
  refine LW_il F dL_law_1502 1 rfl ?_
  refine LW_eq F 1509 dL_law_1504 (by decide) e1 ?_
  refine LW_il F dL_law_1509 1 rfl ?_
  refine LW_ne0 F 1526 dL_law_1511 (by decide) (fun z => LW_go F 2682 dL_law_1526 (by decide) (LW.sub [2, 3, 4, 5, 6] rfl (fin _ q))) (fun z => ?_)
  refine LW_al F dL_law_1514 rfl 5 rfl ?_
  refine LW_ic F (v := 0) dL_law_1515 (by decide) ?_
  refine LW_lald F dL_law_1516 ?_
  rw [e2 z]
  refine LW_il F dL_law_1517 0 rfl ?_
  refine LW_i2l F dL_law_1519 ?_
  refine LW_lq F 1526 dL_law_1520 dL_law_1521 (by decide) rfl ?_
  refine LW_go F 2682 dL_law_1526 (by decide) ?_
  exact LW.sub [2, 3, 4, 5, 6] rfl (fin _ q)
theorem lc_19 {G : LG} {Ls : Nat} {xs : Nat → Int32} {kc t : Nat} {μ : zMem} (F : LF G Ls xs) (ht : t + 6 ≤ Ls) (hc : kc ≤ 1990) (hQ : QI μ) (fin : ∀ μ', QI μ' → LW G (kc + 3) 2682 (LL G t) [] μ') : LW G kc 1529 (LL G t) [] μ := by
  obtain ⟨n, S, D, tn, tb, FF, T, K, M, hq⟩ := hQ
  refine LW_al F dL_law_1529 rfl 1 rfl ?_
  refine LW_ld F 1 0 4 ht (by omega) dL_law_1530 dL_law_1531 dL_law_1533 (by decide) dL_law_1534 dL_law_1535 rfl rfl ?_
  refine LW_ld F 2 0 4 ht (by omega) dL_law_1536 dL_law_1537 dL_law_1539 (by decide) dL_law_1540 dL_law_1541 rfl rfl ?_
  refine LW_ld F 3 0 4 ht (by omega) dL_law_1542 dL_law_1543 dL_law_1545 (by decide) dL_law_1546 dL_law_1547 rfl rfl ?_
  refine LW_ld F 4 0 4 ht (by omega) dL_law_1548 dL_law_1549 dL_law_1551 (by decide) dL_law_1552 dL_law_1553 rfl rfl ?_
  refine LW_bool F 1561 dL_law_1554 (by decide) dL_law_1557 dL_law_1558 (by decide) dL_law_1561 ?_
  refine LW_al F dL_law_1562 rfl 3 rfl ?_
  refine LW_cW F (d := 99) (g := mL_least) (sa := []) [.ref 0, .int (xs (t + 1)), .int (xs (t + 2)), .int (xs (t + 3)), .int (if xs (t + 4) = 0 then 0 else 1), .ref 143] (by decide) dL_law_1563 (wGm 1149 (by decide +kernel) rfl) mgL_least rfl rfl (by decide) (by omega) (wK_of (fun v => v.toInt64) (by have := P_least (d := 89 - n) (x1 := xs (t + 1)) (x2 := xs (t + 2)) (x3 := xs (t + 3)) (x4 := (if xs (t + 4) = 0 then 0 else 1)) (by split <;> simp) hq; rwa [show 89 - n + n + 9 = 98 from by have := hq.1.1; omega] at this) (fun K h => cL_least_ h)) (fun r m1 k1 hk => ?_)
  obtain ⟨c0, rfl, k1le, h3⟩ := hk
  refine ⟨_, rfl, k1le, ?_⟩
  show LW G (kc + 1) 1566 (LL G t) [.int c0] m1
  refine LW_is F (L' := [(5, .int c0), (0, .ref (gB G)), (1, .ref (gA G 0)), (2, .ref (gA G 106)), (3, .ref (gA G 143)), (4, .int (nI t))]) dL_law_1566 (by decide) rfl ?_
  refine LW_al F dL_law_1568 rfl 3 rfl ?_
  refine LW_ld F 1 1 5 ht (by omega) dL_law_1569 dL_law_1570 dL_law_1572 (by decide) dL_law_1573 dL_law_1574 rfl rfl ?_
  refine LW_ld F 2 1 5 ht (by omega) dL_law_1575 dL_law_1576 dL_law_1578 (by decide) dL_law_1579 dL_law_1580 rfl rfl ?_
  refine LW_ld F 3 1 5 ht (by omega) dL_law_1581 dL_law_1582 dL_law_1584 (by decide) dL_law_1585 dL_law_1586 rfl rfl ?_
  refine LW_ld F 4 1 5 ht (by omega) dL_law_1587 dL_law_1588 dL_law_1590 (by decide) dL_law_1591 dL_law_1592 rfl rfl ?_
  refine LW_bool F 1600 dL_law_1593 (by decide) dL_law_1596 dL_law_1597 (by decide) dL_law_1600 ?_
  refine LW_cVi F (d := 98) (g := mX9_least) (sa := []) [.int (xs (t + 1)), .int (xs (t + 2)), .int (xs (t + 3)), .int (if xs (t + 4) = 0 then 0 else 1)] (by decide) dL_law_1601 (wGm 1871 (by decide +kernel) rfl) mgX9_least rfl mvX9_least (zrv zl106 _ rfl rfl) rfl rfl (Nat.le_of_ble_eq_true rfl) (by omega) (h3.imp (fun v m3 hk => ?_) (fun _ _ h => h))
  obtain ⟨e1, e2, q⟩ := hk
  refine LW_is F (L' := [(6, .int v), (5, .int c0), (0, .ref (gB G)), (1, .ref (gA G 0)), (2, .ref (gA G 106)), (3, .ref (gA G 143)), (4, .int (nI t))]) dL_law_1604 (by decide) rfl ?_
  refine LW_al F dL_law_1606 rfl 4 rfl ?_
  refine LW_cVi F (d := 98) (g := mX9_thrown) (sa := []) [] (by decide) dL_law_1607 (wGm 1569 (by decide +kernel) rfl) mgX9_thrown rfl mvX9_thrown (zrv zl106 _ rfl rfl) rfl rfl (Nat.le_of_ble_eq_true rfl) (by omega) (cX9_thrown_ (d := 97) ?_)
  show LW G (kc + 3) 1610 [(6, .int v), (5, .int c0), (0, .ref (gB G)), (1, .ref (gA G 0)), (2, .ref (gA G 106)), (3, .ref (gA G 143)), (4, .int (nI t))] [.int (m3 106 3)] m3
  refine LW_il F dL_law_1610 1 rfl ?_
  refine LW_eq F 1617 dL_law_1612 (by decide) e1 ?_
  refine LW_il F dL_law_1617 1 rfl ?_
  refine LW_ne0 F 1634 dL_law_1619 (by decide) (fun z => LW_go F 2682 dL_law_1634 (by decide) (LW.sub [2, 3, 4, 5, 6] rfl (fin _ q))) (fun z => ?_)
  refine LW_al F dL_law_1622 rfl 5 rfl ?_
  refine LW_ic F (v := 0) dL_law_1623 (by decide) ?_
  refine LW_lald F dL_law_1624 ?_
  rw [e2 z]
  refine LW_il F dL_law_1625 0 rfl ?_
  refine LW_i2l F dL_law_1627 ?_
  refine LW_lq F 1634 dL_law_1628 dL_law_1629 (by decide) rfl ?_
  refine LW_go F 2682 dL_law_1634 (by decide) ?_
  exact LW.sub [2, 3, 4, 5, 6] rfl (fin _ q)
theorem lc_20 {G : LG} {Ls : Nat} {xs : Nat → Int32} {kc t : Nat} {μ : zMem} (F : LF G Ls xs) (ht : t + 6 ≤ Ls) (hc : kc ≤ 1990) (hQ : QI μ) (fin : ∀ μ', QI μ' → LW G (kc + 3) 2682 (LL G t) [] μ') : LW G kc 1637 (LL G t) [] μ := by
  obtain ⟨n, S, D, tn, tb, FF, T, K, M, hq⟩ := hQ
  refine LW_al F dL_law_1637 rfl 1 rfl ?_
  refine LW_ld F 1 0 4 ht (by omega) dL_law_1638 dL_law_1639 dL_law_1641 (by decide) dL_law_1642 dL_law_1643 rfl rfl ?_
  refine LW_al F dL_law_1644 rfl 3 rfl ?_
  refine LW_cW F (d := 99) (g := mL_rope) (sa := []) [.ref 0, .int (xs (t + 1)), .ref 143] (by decide) dL_law_1645 (wGm 1200 (by decide +kernel) rfl) mgL_rope rfl rfl (by decide) (by omega) (wK_of (fun v => v.toInt64) (P_rope (d := 95) hq) (fun K h => cL_rope_ h)) (fun r m1 k1 hk => ?_)
  obtain ⟨c0, rfl, k1le, h3⟩ := hk
  refine ⟨_, rfl, k1le, ?_⟩
  show LW G (kc + 1) 1648 (LL G t) [.int c0] m1
  refine LW_is F (L' := [(5, .int c0), (0, .ref (gB G)), (1, .ref (gA G 0)), (2, .ref (gA G 106)), (3, .ref (gA G 143)), (4, .int (nI t))]) dL_law_1648 (by decide) rfl ?_
  refine LW_al F dL_law_1650 rfl 3 rfl ?_
  refine LW_ld F 1 1 5 ht (by omega) dL_law_1651 dL_law_1652 dL_law_1654 (by decide) dL_law_1655 dL_law_1656 rfl rfl ?_
  refine LW_cVi F (d := 98) (g := mX9_rope) (sa := []) [.int (xs (t + 1))] (by decide) dL_law_1657 (wGm 1883 (by decide +kernel) rfl) mgX9_rope rfl mvX9_rope (zrv zl106 _ rfl rfl) rfl rfl (Nat.le_of_ble_eq_true rfl) (by omega) (h3.imp (fun v m3 hk => ?_) (fun _ _ h => h))
  obtain ⟨e1, e2, q⟩ := hk
  refine LW_is F (L' := [(6, .int v), (5, .int c0), (0, .ref (gB G)), (1, .ref (gA G 0)), (2, .ref (gA G 106)), (3, .ref (gA G 143)), (4, .int (nI t))]) dL_law_1660 (by decide) rfl ?_
  refine LW_al F dL_law_1662 rfl 4 rfl ?_
  refine LW_cVi F (d := 98) (g := mX9_thrown) (sa := []) [] (by decide) dL_law_1663 (wGm 1569 (by decide +kernel) rfl) mgX9_thrown rfl mvX9_thrown (zrv zl106 _ rfl rfl) rfl rfl (Nat.le_of_ble_eq_true rfl) (by omega) (cX9_thrown_ (d := 97) ?_)
  show LW G (kc + 3) 1666 [(6, .int v), (5, .int c0), (0, .ref (gB G)), (1, .ref (gA G 0)), (2, .ref (gA G 106)), (3, .ref (gA G 143)), (4, .int (nI t))] [.int (m3 106 3)] m3
  refine LW_il F dL_law_1666 1 rfl ?_
  refine LW_eq F 1673 dL_law_1668 (by decide) e1 ?_
  refine LW_il F dL_law_1673 1 rfl ?_
  refine LW_ne0 F 1690 dL_law_1675 (by decide) (fun z => LW_go F 2682 dL_law_1690 (by decide) (LW.sub [2, 3, 4, 5, 6] rfl (fin _ q))) (fun z => ?_)
  refine LW_al F dL_law_1678 rfl 5 rfl ?_
  refine LW_ic F (v := 0) dL_law_1679 (by decide) ?_
  refine LW_lald F dL_law_1680 ?_
  rw [e2 z]
  refine LW_il F dL_law_1681 0 rfl ?_
  refine LW_i2l F dL_law_1683 ?_
  refine LW_lq F 1690 dL_law_1684 dL_law_1685 (by decide) rfl ?_
  refine LW_go F 2682 dL_law_1690 (by decide) ?_
  exact LW.sub [2, 3, 4, 5, 6] rfl (fin _ q)
theorem lc_21 {G : LG} {Ls : Nat} {xs : Nat → Int32} {kc t : Nat} {μ : zMem} (F : LF G Ls xs) (ht : t + 6 ≤ Ls) (hc : kc ≤ 1990) (hQ : QI μ) (fin : ∀ μ', QI μ' → LW G (kc + 3) 2682 (LL G t) [] μ') : LW G kc 1693 (LL G t) [] μ := by
  obtain ⟨n, S, D, tn, tb, FF, T, K, M, hq⟩ := hQ
  refine LW_al F dL_law_1693 rfl 1 rfl ?_
  refine LW_ld F 1 0 4 ht (by omega) dL_law_1694 dL_law_1695 dL_law_1697 (by decide) dL_law_1698 dL_law_1699 rfl rfl ?_
  refine LW_ld F 2 0 4 ht (by omega) dL_law_1700 dL_law_1701 dL_law_1703 (by decide) dL_law_1704 dL_law_1705 rfl rfl ?_
  refine LW_ld F 3 0 4 ht (by omega) dL_law_1706 dL_law_1707 dL_law_1709 (by decide) dL_law_1710 dL_law_1711 rfl rfl ?_
  refine LW_ld F 4 0 4 ht (by omega) dL_law_1712 dL_law_1713 dL_law_1715 (by decide) dL_law_1716 dL_law_1717 rfl rfl ?_
  refine LW_al F dL_law_1718 rfl 3 rfl ?_
  refine LW_cW F (d := 99) (g := mL_way) (sa := []) [.ref 0, .int (xs (t + 1)), .int (xs (t + 2)), .int (xs (t + 3)), .int (xs (t + 4)), .ref 143] (by decide) dL_law_1719 (wGm 1208 (by decide +kernel) rfl) mgL_way rfl rfl (by decide) (by omega) (wK_of (fun v => v.toInt64) (P_way (d := 91) hq) (fun K h => cL_way_ h)) (fun r m1 k1 hk => ?_)
  obtain ⟨c0, rfl, k1le, h3⟩ := hk
  refine ⟨_, rfl, k1le, ?_⟩
  show LW G (kc + 1) 1722 (LL G t) [.int c0] m1
  refine LW_is F (L' := [(5, .int c0), (0, .ref (gB G)), (1, .ref (gA G 0)), (2, .ref (gA G 106)), (3, .ref (gA G 143)), (4, .int (nI t))]) dL_law_1722 (by decide) rfl ?_
  refine LW_al F dL_law_1724 rfl 3 rfl ?_
  refine LW_ld F 1 1 5 ht (by omega) dL_law_1725 dL_law_1726 dL_law_1728 (by decide) dL_law_1729 dL_law_1730 rfl rfl ?_
  refine LW_ld F 2 1 5 ht (by omega) dL_law_1731 dL_law_1732 dL_law_1734 (by decide) dL_law_1735 dL_law_1736 rfl rfl ?_
  refine LW_ld F 3 1 5 ht (by omega) dL_law_1737 dL_law_1738 dL_law_1740 (by decide) dL_law_1741 dL_law_1742 rfl rfl ?_
  refine LW_ld F 4 1 5 ht (by omega) dL_law_1743 dL_law_1744 dL_law_1746 (by decide) dL_law_1747 dL_law_1748 rfl rfl ?_
  refine LW_cVi F (d := 98) (g := mX9_way) (sa := []) [.int (xs (t + 1)), .int (xs (t + 2)), .int (xs (t + 3)), .int (xs (t + 4))] (by decide) dL_law_1749 (wGm 1887 (by decide +kernel) rfl) mgX9_way rfl mvX9_way (zrv zl106 _ rfl rfl) rfl rfl (Nat.le_of_ble_eq_true rfl) (by omega) (h3.imp (fun v m3 hk => ?_) (fun _ _ h => h))
  obtain ⟨e1, e2, q⟩ := hk
  refine LW_is F (L' := [(6, .int v), (5, .int c0), (0, .ref (gB G)), (1, .ref (gA G 0)), (2, .ref (gA G 106)), (3, .ref (gA G 143)), (4, .int (nI t))]) dL_law_1752 (by decide) rfl ?_
  refine LW_al F dL_law_1754 rfl 4 rfl ?_
  refine LW_cVi F (d := 98) (g := mX9_thrown) (sa := []) [] (by decide) dL_law_1755 (wGm 1569 (by decide +kernel) rfl) mgX9_thrown rfl mvX9_thrown (zrv zl106 _ rfl rfl) rfl rfl (Nat.le_of_ble_eq_true rfl) (by omega) (cX9_thrown_ (d := 97) ?_)
  show LW G (kc + 3) 1758 [(6, .int v), (5, .int c0), (0, .ref (gB G)), (1, .ref (gA G 0)), (2, .ref (gA G 106)), (3, .ref (gA G 143)), (4, .int (nI t))] [.int (m3 106 3)] m3
  refine LW_il F dL_law_1758 1 rfl ?_
  refine LW_eq F 1765 dL_law_1760 (by decide) e1 ?_
  refine LW_il F dL_law_1765 1 rfl ?_
  refine LW_ne0 F 1782 dL_law_1767 (by decide) (fun z => LW_go F 2682 dL_law_1782 (by decide) (LW.sub [2, 3, 4, 5, 6] rfl (fin _ q))) (fun z => ?_)
  refine LW_al F dL_law_1770 rfl 5 rfl ?_
  refine LW_ic F (v := 0) dL_law_1771 (by decide) ?_
  refine LW_lald F dL_law_1772 ?_
  rw [e2 z]
  refine LW_il F dL_law_1773 0 rfl ?_
  refine LW_i2l F dL_law_1775 ?_
  refine LW_lq F 1782 dL_law_1776 dL_law_1777 (by decide) rfl ?_
  refine LW_go F 2682 dL_law_1782 (by decide) ?_
  exact LW.sub [2, 3, 4, 5, 6] rfl (fin _ q)
theorem lc_22 {G : LG} {Ls : Nat} {xs : Nat → Int32} {kc t : Nat} {μ : zMem} (F : LF G Ls xs) (ht : t + 6 ≤ Ls) (hc : kc ≤ 1990) (hQ : QI μ) (fin : ∀ μ', QI μ' → LW G (kc + 3) 2682 (LL G t) [] μ') : LW G kc 1785 (LL G t) [] μ := by
  obtain ⟨n, S, D, tn, tb, FF, T, K, M, hq⟩ := hQ
  refine LW_al F dL_law_1785 rfl 1 rfl ?_
  refine LW_ld F 1 0 4 ht (by omega) dL_law_1786 dL_law_1787 dL_law_1789 (by decide) dL_law_1790 dL_law_1791 rfl rfl ?_
  refine LW_ld F 2 0 4 ht (by omega) dL_law_1792 dL_law_1793 dL_law_1795 (by decide) dL_law_1796 dL_law_1797 rfl rfl ?_
  refine LW_bool F 1805 dL_law_1798 (by decide) dL_law_1801 dL_law_1802 (by decide) dL_law_1805 ?_
  refine LW_cVi F (d := 98) (g := mX8_cross) (sa := []) [.int (xs (t + 1)), .int (if xs (t + 2) = 0 then 0 else 1)] (by decide) dL_law_1806 (wGm 502 (by decide +kernel) rfl) mgX8_cross rfl mvX8_cross (zrv zl0 _ rfl rfl) rfl rfl (Nat.le_of_ble_eq_true rfl) (by omega) ((P_cross (d := 96) hq) _ zNo (fun v1 m1 f1 h2 => ?_) (fun E m1 _ _ z => absurd rfl z))
  refine LW_al F dL_law_1809 rfl 2 rfl ?_
  refine LW_ld F 1 0 4 ht (by omega) dL_law_1810 dL_law_1811 dL_law_1813 (by decide) dL_law_1814 dL_law_1815 rfl rfl ?_
  refine LW_ld F 2 0 4 ht (by omega) dL_law_1816 dL_law_1817 dL_law_1819 (by decide) dL_law_1820 dL_law_1821 rfl rfl ?_
  refine LW_bool F 1829 dL_law_1822 (by decide) dL_law_1825 dL_law_1826 (by decide) dL_law_1829 ?_
  refine LW_cVi F (d := 98) (g := mX9_cross) (sa := [.int v1]) [.int (xs (t + 1)), .int (if xs (t + 2) = 0 then 0 else 1)] (by decide) dL_law_1830 (wGm 1895 (by decide +kernel) rfl) mgX9_cross rfl mvX9_cross (zrv zl106 _ rfl rfl) rfl rfl (Nat.le_of_ble_eq_true rfl) (by omega) ((h2 m1 Fr.rf).imp (fun v m3 hk => ?_) (fun _ _ h => h))
  obtain ⟨-, e2, q, -⟩ := hk
  refine LW_eq F 2682 dL_law_1833 (by decide) e2.symm ?_
  exact LW.le (kc' := kc + 3) (by omega) (fin _ q)
theorem lc_23 {G : LG} {Ls : Nat} {xs : Nat → Int32} {kc t : Nat} {μ : zMem} (F : LF G Ls xs) (ht : t + 6 ≤ Ls) (hc : kc ≤ 1990) (hQ : QI μ) (fin : ∀ μ', QI μ' → LW G (kc + 3) 2682 (LL G t) [] μ') : LW G kc 1838 (LL G t) [] μ := by
  obtain ⟨n, S, D, tn, tb, FF, T, K, M, hq⟩ := hQ
  refine LW_al F dL_law_1838 rfl 1 rfl ?_
  refine LW_cVi F (d := 98) (g := mX8_uncross) (sa := []) [] (by decide) dL_law_1839 (wGm 506 (by decide +kernel) rfl) mgX8_uncross rfl mvX8_uncross (zrv zl0 _ rfl rfl) rfl rfl (Nat.le_of_ble_eq_true rfl) (by omega) ((P_uncross (d := 96) hq) _ zNo (fun v1 m1 f1 h2 => ?_) (fun E m1 _ _ z => absurd rfl z))
  refine LW_al F dL_law_1842 rfl 2 rfl ?_
  refine LW_cVi F (d := 98) (g := mX9_uncross) (sa := [.int v1]) [] (by decide) dL_law_1843 (wGm 1899 (by decide +kernel) rfl) mgX9_uncross rfl mvX9_uncross (zrv zl106 _ rfl rfl) rfl rfl (Nat.le_of_ble_eq_true rfl) (by omega) ((h2 m1 Fr.rf).imp (fun v m3 hk => ?_) (fun _ _ h => h))
  obtain ⟨-, e2, q, -⟩ := hk
  refine LW_eq F 2682 dL_law_1846 (by decide) e2.symm ?_
  exact LW.le (kc' := kc + 3) (by omega) (fin _ q)
theorem lc_24 {G : LG} {Ls : Nat} {xs : Nat → Int32} {kc t : Nat} {μ : zMem} (F : LF G Ls xs) (ht : t + 6 ≤ Ls) (hc : kc ≤ 1990) (hQ : QI μ) (fin : ∀ μ', QI μ' → LW G (kc + 3) 2682 (LL G t) [] μ') : LW G kc 1851 (LL G t) [] μ := by
  obtain ⟨n, S, D, tn, tb, FF, T, K, M, hq⟩ := hQ
  refine LW_al F dL_law_1851 rfl 1 rfl ?_
  refine LW_ld F 1 0 4 ht (by omega) dL_law_1852 dL_law_1853 dL_law_1855 (by decide) dL_law_1856 dL_law_1857 rfl rfl ?_
  refine LW_al F dL_law_1858 rfl 3 rfl ?_
  refine LW_cW F (d := 99) (g := mL_freed) (sa := []) [.ref 0, .int (xs (t + 1)), .ref 143] (by decide) dL_law_1859 (wGm 1223 (by decide +kernel) rfl) mgL_freed rfl rfl (by decide) (by omega) (wK_of (fun v => v.toInt64) (P_freed (d := 96) hq) (fun K h => cL_freed_ h)) (fun r m1 k1 hk => ?_)
  obtain ⟨c0, rfl, k1le, h3⟩ := hk
  refine ⟨_, rfl, k1le, ?_⟩
  show LW G (kc + 1) 1862 (LL G t) [.int c0] m1
  refine LW_is F (L' := [(5, .int c0), (0, .ref (gB G)), (1, .ref (gA G 0)), (2, .ref (gA G 106)), (3, .ref (gA G 143)), (4, .int (nI t))]) dL_law_1862 (by decide) rfl ?_
  refine LW_al F dL_law_1864 rfl 3 rfl ?_
  refine LW_ld F 1 1 5 ht (by omega) dL_law_1865 dL_law_1866 dL_law_1868 (by decide) dL_law_1869 dL_law_1870 rfl rfl ?_
  refine LW_cVi F (d := 98) (g := mX9_freed) (sa := []) [.int (xs (t + 1))] (by decide) dL_law_1871 (wGm 1903 (by decide +kernel) rfl) mgX9_freed rfl mvX9_freed (zrv zl106 _ rfl rfl) rfl rfl (Nat.le_of_ble_eq_true rfl) (by omega) (h3.imp (fun v m3 hk => ?_) (fun _ _ h => h))
  obtain ⟨e1, e2, q⟩ := hk
  refine LW_is F (L' := [(6, .int v), (5, .int c0), (0, .ref (gB G)), (1, .ref (gA G 0)), (2, .ref (gA G 106)), (3, .ref (gA G 143)), (4, .int (nI t))]) dL_law_1874 (by decide) rfl ?_
  refine LW_al F dL_law_1876 rfl 4 rfl ?_
  refine LW_cVi F (d := 98) (g := mX9_thrown) (sa := []) [] (by decide) dL_law_1877 (wGm 1569 (by decide +kernel) rfl) mgX9_thrown rfl mvX9_thrown (zrv zl106 _ rfl rfl) rfl rfl (Nat.le_of_ble_eq_true rfl) (by omega) (cX9_thrown_ (d := 97) ?_)
  show LW G (kc + 3) 1880 [(6, .int v), (5, .int c0), (0, .ref (gB G)), (1, .ref (gA G 0)), (2, .ref (gA G 106)), (3, .ref (gA G 143)), (4, .int (nI t))] [.int (m3 106 3)] m3
  refine LW_il F dL_law_1880 1 rfl ?_
  refine LW_eq F 1887 dL_law_1882 (by decide) e1 ?_
  refine LW_il F dL_law_1887 1 rfl ?_
  refine LW_ne0 F 1904 dL_law_1889 (by decide) (fun z => LW_go F 2682 dL_law_1904 (by decide) (LW.sub [2, 3, 4, 5, 6] rfl (fin _ q))) (fun z => ?_)
  refine LW_al F dL_law_1892 rfl 5 rfl ?_
  refine LW_ic F (v := 0) dL_law_1893 (by decide) ?_
  refine LW_lald F dL_law_1894 ?_
  rw [e2 z]
  refine LW_il F dL_law_1895 0 rfl ?_
  refine LW_i2l F dL_law_1897 ?_
  refine LW_lq F 1904 dL_law_1898 dL_law_1899 (by decide) rfl ?_
  refine LW_go F 2682 dL_law_1904 (by decide) ?_
  exact LW.sub [2, 3, 4, 5, 6] rfl (fin _ q)
theorem lc_25 {G : LG} {Ls : Nat} {xs : Nat → Int32} {kc t : Nat} {μ : zMem} (F : LF G Ls xs) (ht : t + 6 ≤ Ls) (hc : kc ≤ 1990) (hQ : QI μ) (fin : ∀ μ', QI μ' → LW G (kc + 3) 2682 (LL G t) [] μ') : LW G kc 1907 (LL G t) [] μ := by
  obtain ⟨n, S, D, tn, tb, FF, T, K, M, hq⟩ := hQ
  refine LW_al F dL_law_1907 rfl 1 rfl ?_
  refine LW_ld F 1 0 4 ht (by omega) dL_law_1908 dL_law_1909 dL_law_1911 (by decide) dL_law_1912 dL_law_1913 rfl rfl ?_
  refine LW_ld F 2 0 4 ht (by omega) dL_law_1914 dL_law_1915 dL_law_1917 (by decide) dL_law_1918 dL_law_1919 rfl rfl ?_
  refine LW_al F dL_law_1920 rfl 3 rfl ?_
  refine LW_cW F (d := 99) (g := mL_tangle) (sa := []) [.ref 0, .int (xs (t + 1)), .int (xs (t + 2)), .ref 143] (by decide) dL_law_1921 (wGm 1236 (by decide +kernel) rfl) mgL_tangle rfl rfl (by decide) (by omega) (wK_of (fun v => v.toInt64) (P_tangle (d := 95) hq) (fun K h => cL_tangle_ h)) (fun r m1 k1 hk => ?_)
  obtain ⟨c0, rfl, k1le, h3⟩ := hk
  refine ⟨_, rfl, k1le, ?_⟩
  show LW G (kc + 1) 1924 (LL G t) [.int c0] m1
  refine LW_is F (L' := [(5, .int c0), (0, .ref (gB G)), (1, .ref (gA G 0)), (2, .ref (gA G 106)), (3, .ref (gA G 143)), (4, .int (nI t))]) dL_law_1924 (by decide) rfl ?_
  refine LW_al F dL_law_1926 rfl 3 rfl ?_
  refine LW_ld F 1 1 5 ht (by omega) dL_law_1927 dL_law_1928 dL_law_1930 (by decide) dL_law_1931 dL_law_1932 rfl rfl ?_
  refine LW_ld F 2 1 5 ht (by omega) dL_law_1933 dL_law_1934 dL_law_1936 (by decide) dL_law_1937 dL_law_1938 rfl rfl ?_
  refine LW_cVi F (d := 98) (g := mX9_tangle) (sa := []) [.int (xs (t + 1)), .int (xs (t + 2))] (by decide) dL_law_1939 (wGm 1912 (by decide +kernel) rfl) mgX9_tangle rfl mvX9_tangle (zrv zl106 _ rfl rfl) rfl rfl (Nat.le_of_ble_eq_true rfl) (by omega) (h3.imp (fun v m3 hk => ?_) (fun _ _ h => h))
  obtain ⟨e1, e2, q⟩ := hk
  refine LW_is F (L' := [(6, .int v), (5, .int c0), (0, .ref (gB G)), (1, .ref (gA G 0)), (2, .ref (gA G 106)), (3, .ref (gA G 143)), (4, .int (nI t))]) dL_law_1942 (by decide) rfl ?_
  refine LW_al F dL_law_1944 rfl 4 rfl ?_
  refine LW_cVi F (d := 98) (g := mX9_thrown) (sa := []) [] (by decide) dL_law_1945 (wGm 1569 (by decide +kernel) rfl) mgX9_thrown rfl mvX9_thrown (zrv zl106 _ rfl rfl) rfl rfl (Nat.le_of_ble_eq_true rfl) (by omega) (cX9_thrown_ (d := 97) ?_)
  show LW G (kc + 3) 1948 [(6, .int v), (5, .int c0), (0, .ref (gB G)), (1, .ref (gA G 0)), (2, .ref (gA G 106)), (3, .ref (gA G 143)), (4, .int (nI t))] [.int (m3 106 3)] m3
  refine LW_il F dL_law_1948 1 rfl ?_
  refine LW_eq F 1955 dL_law_1950 (by decide) e1 ?_
  refine LW_il F dL_law_1955 1 rfl ?_
  refine LW_ne0 F 1972 dL_law_1957 (by decide) (fun z => LW_go F 2682 dL_law_1972 (by decide) (LW.sub [2, 3, 4, 5, 6] rfl (fin _ q))) (fun z => ?_)
  refine LW_al F dL_law_1960 rfl 5 rfl ?_
  refine LW_ic F (v := 0) dL_law_1961 (by decide) ?_
  refine LW_lald F dL_law_1962 ?_
  rw [e2 z]
  refine LW_il F dL_law_1963 0 rfl ?_
  refine LW_i2l F dL_law_1965 ?_
  refine LW_lq F 1972 dL_law_1966 dL_law_1967 (by decide) rfl ?_
  refine LW_go F 2682 dL_law_1972 (by decide) ?_
  exact LW.sub [2, 3, 4, 5, 6] rfl (fin _ q)
theorem lc_26 {G : LG} {Ls : Nat} {xs : Nat → Int32} {kc t : Nat} {μ : zMem} (F : LF G Ls xs) (ht : t + 6 ≤ Ls) (hc : kc ≤ 1990) (hQ : QI μ) (fin : ∀ μ', QI μ' → LW G (kc + 3) 2682 (LL G t) [] μ') : LW G kc 1975 (LL G t) [] μ := by
  obtain ⟨n, S, D, tn, tb, FF, T, K, M, hq⟩ := hQ
  refine LW_al F dL_law_1975 rfl 1 rfl ?_
  refine LW_ld F 1 0 4 ht (by omega) dL_law_1976 dL_law_1977 dL_law_1979 (by decide) dL_law_1980 dL_law_1981 rfl rfl ?_
  refine LW_ld F 2 0 4 ht (by omega) dL_law_1982 dL_law_1983 dL_law_1985 (by decide) dL_law_1986 dL_law_1987 rfl rfl ?_
  refine LW_ld F 3 0 4 ht (by omega) dL_law_1988 dL_law_1989 dL_law_1991 (by decide) dL_law_1992 dL_law_1993 rfl rfl ?_
  refine LW_al F dL_law_1994 rfl 3 rfl ?_
  refine LW_cW F (d := 99) (g := mL_see) (sa := []) [.ref 0, .int (xs (t + 1)), .int (xs (t + 2)), .int (xs (t + 3)), .ref 143] (by decide) dL_law_1995 (wGm 1247 (by decide +kernel) rfl) mgL_see rfl rfl (by decide) (by omega) (wK_of (fun v => v.toInt64) (P_see (d := 95) hq) (fun K h => cL_see_ h)) (fun r m1 k1 hk => ?_)
  obtain ⟨c0, rfl, k1le, h3⟩ := hk
  refine ⟨_, rfl, k1le, ?_⟩
  show LW G (kc + 1) 1998 (LL G t) [.int c0] m1
  refine LW_is F (L' := [(5, .int c0), (0, .ref (gB G)), (1, .ref (gA G 0)), (2, .ref (gA G 106)), (3, .ref (gA G 143)), (4, .int (nI t))]) dL_law_1998 (by decide) rfl ?_
  refine LW_al F dL_law_2000 rfl 3 rfl ?_
  refine LW_ld F 1 1 5 ht (by omega) dL_law_2001 dL_law_2002 dL_law_2004 (by decide) dL_law_2005 dL_law_2006 rfl rfl ?_
  refine LW_ld F 2 1 5 ht (by omega) dL_law_2007 dL_law_2008 dL_law_2010 (by decide) dL_law_2011 dL_law_2012 rfl rfl ?_
  refine LW_ld F 3 1 5 ht (by omega) dL_law_2013 dL_law_2014 dL_law_2016 (by decide) dL_law_2017 dL_law_2018 rfl rfl ?_
  refine LW_cVi F (d := 98) (g := mX9_see) (sa := []) [.int (xs (t + 1)), .int (xs (t + 2)), .int (xs (t + 3))] (by decide) dL_law_2019 (wGm 1920 (by decide +kernel) rfl) mgX9_see rfl mvX9_see (zrv zl106 _ rfl rfl) rfl rfl (Nat.le_of_ble_eq_true rfl) (by omega) (h3.imp (fun v m3 hk => ?_) (fun _ _ h => h))
  obtain ⟨e1, e2, q⟩ := hk
  refine LW_is F (L' := [(6, .int v), (5, .int c0), (0, .ref (gB G)), (1, .ref (gA G 0)), (2, .ref (gA G 106)), (3, .ref (gA G 143)), (4, .int (nI t))]) dL_law_2022 (by decide) rfl ?_
  refine LW_al F dL_law_2024 rfl 4 rfl ?_
  refine LW_cVi F (d := 98) (g := mX9_thrown) (sa := []) [] (by decide) dL_law_2025 (wGm 1569 (by decide +kernel) rfl) mgX9_thrown rfl mvX9_thrown (zrv zl106 _ rfl rfl) rfl rfl (Nat.le_of_ble_eq_true rfl) (by omega) (cX9_thrown_ (d := 97) ?_)
  show LW G (kc + 3) 2028 [(6, .int v), (5, .int c0), (0, .ref (gB G)), (1, .ref (gA G 0)), (2, .ref (gA G 106)), (3, .ref (gA G 143)), (4, .int (nI t))] [.int (m3 106 3)] m3
  refine LW_il F dL_law_2028 1 rfl ?_
  refine LW_eq F 2035 dL_law_2030 (by decide) e1 ?_
  refine LW_il F dL_law_2035 1 rfl ?_
  refine LW_ne0 F 2052 dL_law_2037 (by decide) (fun z => LW_go F 2682 dL_law_2052 (by decide) (LW.sub [2, 3, 4, 5, 6] rfl (fin _ q))) (fun z => ?_)
  refine LW_al F dL_law_2040 rfl 5 rfl ?_
  refine LW_ic F (v := 0) dL_law_2041 (by decide) ?_
  refine LW_lald F dL_law_2042 ?_
  rw [e2 z]
  refine LW_il F dL_law_2043 0 rfl ?_
  refine LW_i2l F dL_law_2045 ?_
  refine LW_lq F 2052 dL_law_2046 dL_law_2047 (by decide) rfl ?_
  refine LW_go F 2682 dL_law_2052 (by decide) ?_
  exact LW.sub [2, 3, 4, 5, 6] rfl (fin _ q)
theorem lc_27 {G : LG} {Ls : Nat} {xs : Nat → Int32} {kc t : Nat} {μ : zMem} (F : LF G Ls xs) (ht : t + 6 ≤ Ls) (hc : kc ≤ 1990) (hQ : QI μ) (fin : ∀ μ', QI μ' → LW G (kc + 3) 2682 (LL G t) [] μ') : LW G kc 2055 (LL G t) [] μ := by
  obtain ⟨n, S, D, tn, tb, FF, T, K, M, hq⟩ := hQ
  refine LW_al F dL_law_2055 rfl 1 rfl ?_
  refine LW_ld F 1 0 4 ht (by omega) dL_law_2056 dL_law_2057 dL_law_2059 (by decide) dL_law_2060 dL_law_2061 rfl rfl ?_
  refine LW_al F dL_law_2062 rfl 3 rfl ?_
  refine LW_cW F (d := 99) (g := mL_fits) (sa := []) [.ref 0, .int (xs (t + 1)), .ref 143] (by decide) dL_law_2063 (wGm 1254 (by decide +kernel) rfl) mgL_fits rfl rfl (by decide) (by omega) (wK_of (fun v => v.toInt64) (P_fits (d := 90) hq) (fun K h => cL_fits_ h)) (fun r m1 k1 hk => ?_)
  obtain ⟨c0, rfl, k1le, h3⟩ := hk
  refine ⟨_, rfl, k1le, ?_⟩
  show LW G (kc + 1) 2066 (LL G t) [.int c0] m1
  refine LW_is F (L' := [(5, .int c0), (0, .ref (gB G)), (1, .ref (gA G 0)), (2, .ref (gA G 106)), (3, .ref (gA G 143)), (4, .int (nI t))]) dL_law_2066 (by decide) rfl ?_
  refine LW_al F dL_law_2068 rfl 3 rfl ?_
  refine LW_ld F 1 1 5 ht (by omega) dL_law_2069 dL_law_2070 dL_law_2072 (by decide) dL_law_2073 dL_law_2074 rfl rfl ?_
  refine LW_cVi F (d := 98) (g := mX9_fits) (sa := []) [.int (xs (t + 1))] (by decide) dL_law_2075 (wGm 1924 (by decide +kernel) rfl) mgX9_fits rfl mvX9_fits (zrv zl106 _ rfl rfl) rfl rfl (Nat.le_of_ble_eq_true rfl) (by omega) (h3.imp (fun v m3 hk => ?_) (fun _ _ h => h))
  obtain ⟨e1, e2, q⟩ := hk
  refine LW_is F (L' := [(6, .int v), (5, .int c0), (0, .ref (gB G)), (1, .ref (gA G 0)), (2, .ref (gA G 106)), (3, .ref (gA G 143)), (4, .int (nI t))]) dL_law_2078 (by decide) rfl ?_
  refine LW_al F dL_law_2080 rfl 4 rfl ?_
  refine LW_cVi F (d := 98) (g := mX9_thrown) (sa := []) [] (by decide) dL_law_2081 (wGm 1569 (by decide +kernel) rfl) mgX9_thrown rfl mvX9_thrown (zrv zl106 _ rfl rfl) rfl rfl (Nat.le_of_ble_eq_true rfl) (by omega) (cX9_thrown_ (d := 97) ?_)
  show LW G (kc + 3) 2084 [(6, .int v), (5, .int c0), (0, .ref (gB G)), (1, .ref (gA G 0)), (2, .ref (gA G 106)), (3, .ref (gA G 143)), (4, .int (nI t))] [.int (m3 106 3)] m3
  refine LW_il F dL_law_2084 1 rfl ?_
  refine LW_eq F 2091 dL_law_2086 (by decide) e1 ?_
  refine LW_il F dL_law_2091 1 rfl ?_
  refine LW_ne0 F 2108 dL_law_2093 (by decide) (fun z => LW_go F 2682 dL_law_2108 (by decide) (LW.sub [2, 3, 4, 5, 6] rfl (fin _ q))) (fun z => ?_)
  refine LW_al F dL_law_2096 rfl 5 rfl ?_
  refine LW_ic F (v := 0) dL_law_2097 (by decide) ?_
  refine LW_lald F dL_law_2098 ?_
  rw [e2 z]
  refine LW_il F dL_law_2099 0 rfl ?_
  refine LW_i2l F dL_law_2101 ?_
  refine LW_lq F 2108 dL_law_2102 dL_law_2103 (by decide) rfl ?_
  refine LW_go F 2682 dL_law_2108 (by decide) ?_
  exact LW.sub [2, 3, 4, 5, 6] rfl (fin _ q)
theorem lc_28 {G : LG} {Ls : Nat} {xs : Nat → Int32} {kc t : Nat} {μ : zMem} (F : LF G Ls xs) (ht : t + 6 ≤ Ls) (hc : kc ≤ 1990) (hQ : QI μ) (fin : ∀ μ', QI μ' → LW G (kc + 3) 2682 (LL G t) [] μ') : LW G kc 2111 (LL G t) [] μ := by
  obtain ⟨n, S, D, tn, tb, FF, T, K, M, hq⟩ := hQ
  refine LW_al F dL_law_2111 rfl 1 rfl ?_
  refine LW_ld F 1 0 4 ht (by omega) dL_law_2112 dL_law_2113 dL_law_2115 (by decide) dL_law_2116 dL_law_2117 rfl rfl ?_
  refine LW_ld F 2 0 4 ht (by omega) dL_law_2118 dL_law_2119 dL_law_2121 (by decide) dL_law_2122 dL_law_2123 rfl rfl ?_
  refine LW_ld F 3 0 4 ht (by omega) dL_law_2124 dL_law_2125 dL_law_2127 (by decide) dL_law_2128 dL_law_2129 rfl rfl ?_
  refine LW_ld F 4 0 4 ht (by omega) dL_law_2130 dL_law_2131 dL_law_2133 (by decide) dL_law_2134 dL_law_2135 rfl rfl ?_
  refine LW_al F dL_law_2136 rfl 3 rfl ?_
  refine LW_cW F (d := 99) (g := mL_weighed) (sa := []) [.ref 0, .int (xs (t + 1)), .int (xs (t + 2)), .int (xs (t + 3)), .int (xs (t + 4)), .ref 143] (by decide) dL_law_2137 (wGm 1269 (by decide +kernel) rfl) mgL_weighed rfl rfl (by decide) (by omega) (wK_of (fun v => v.toInt64) (P_weighed (d := 90) hq) (fun K h => cL_weighed_ h)) (fun r m1 k1 hk => ?_)
  obtain ⟨c0, rfl, k1le, h3⟩ := hk
  refine ⟨_, rfl, k1le, ?_⟩
  show LW G (kc + 1) 2140 (LL G t) [.int c0] m1
  refine LW_is F (L' := [(5, .int c0), (0, .ref (gB G)), (1, .ref (gA G 0)), (2, .ref (gA G 106)), (3, .ref (gA G 143)), (4, .int (nI t))]) dL_law_2140 (by decide) rfl ?_
  refine LW_al F dL_law_2142 rfl 3 rfl ?_
  refine LW_ld F 1 1 5 ht (by omega) dL_law_2143 dL_law_2144 dL_law_2146 (by decide) dL_law_2147 dL_law_2148 rfl rfl ?_
  refine LW_ld F 2 1 5 ht (by omega) dL_law_2149 dL_law_2150 dL_law_2152 (by decide) dL_law_2153 dL_law_2154 rfl rfl ?_
  refine LW_ld F 3 1 5 ht (by omega) dL_law_2155 dL_law_2156 dL_law_2158 (by decide) dL_law_2159 dL_law_2160 rfl rfl ?_
  refine LW_ld F 4 1 5 ht (by omega) dL_law_2161 dL_law_2162 dL_law_2164 (by decide) dL_law_2165 dL_law_2166 rfl rfl ?_
  refine LW_cVi F (d := 98) (g := mX9_weighed) (sa := []) [.int (xs (t + 1)), .int (xs (t + 2)), .int (xs (t + 3)), .int (xs (t + 4))] (by decide) dL_law_2167 (wGm 1932 (by decide +kernel) rfl) mgX9_weighed rfl mvX9_weighed (zrv zl106 _ rfl rfl) rfl rfl (Nat.le_of_ble_eq_true rfl) (by omega) (h3.imp (fun v m3 hk => ?_) (fun _ _ h => h))
  obtain ⟨e1, e2, q⟩ := hk
  refine LW_is F (L' := [(6, .int v), (5, .int c0), (0, .ref (gB G)), (1, .ref (gA G 0)), (2, .ref (gA G 106)), (3, .ref (gA G 143)), (4, .int (nI t))]) dL_law_2170 (by decide) rfl ?_
  refine LW_al F dL_law_2172 rfl 4 rfl ?_
  refine LW_cVi F (d := 98) (g := mX9_thrown) (sa := []) [] (by decide) dL_law_2173 (wGm 1569 (by decide +kernel) rfl) mgX9_thrown rfl mvX9_thrown (zrv zl106 _ rfl rfl) rfl rfl (Nat.le_of_ble_eq_true rfl) (by omega) (cX9_thrown_ (d := 97) ?_)
  show LW G (kc + 3) 2176 [(6, .int v), (5, .int c0), (0, .ref (gB G)), (1, .ref (gA G 0)), (2, .ref (gA G 106)), (3, .ref (gA G 143)), (4, .int (nI t))] [.int (m3 106 3)] m3
  refine LW_il F dL_law_2176 1 rfl ?_
  refine LW_eq F 2183 dL_law_2178 (by decide) e1 ?_
  refine LW_il F dL_law_2183 1 rfl ?_
  refine LW_ne0 F 2200 dL_law_2185 (by decide) (fun z => LW_go F 2682 dL_law_2200 (by decide) (LW.sub [2, 3, 4, 5, 6] rfl (fin _ q))) (fun z => ?_)
  refine LW_al F dL_law_2188 rfl 5 rfl ?_
  refine LW_ic F (v := 0) dL_law_2189 (by decide) ?_
  refine LW_lald F dL_law_2190 ?_
  rw [e2 z]
  refine LW_il F dL_law_2191 0 rfl ?_
  refine LW_i2l F dL_law_2193 ?_
  refine LW_lq F 2200 dL_law_2194 dL_law_2195 (by decide) rfl ?_
  refine LW_go F 2682 dL_law_2200 (by decide) ?_
  exact LW.sub [2, 3, 4, 5, 6] rfl (fin _ q)
theorem lc_29 {G : LG} {Ls : Nat} {xs : Nat → Int32} {kc t : Nat} {μ : zMem} (F : LF G Ls xs) (ht : t + 6 ≤ Ls) (hc : kc ≤ 1990) (hQ : QI μ) (fin : ∀ μ', QI μ' → LW G (kc + 3) 2682 (LL G t) [] μ') : LW G kc 2203 (LL G t) [] μ := by
  obtain ⟨n, S, D, tn, tb, FF, T, K, M, hq⟩ := hQ
  refine LW_al F dL_law_2203 rfl 1 rfl ?_
  refine LW_ld F 1 0 4 ht (by omega) dL_law_2204 dL_law_2205 dL_law_2207 (by decide) dL_law_2208 dL_law_2209 rfl rfl ?_
  refine LW_ld F 2 0 4 ht (by omega) dL_law_2210 dL_law_2211 dL_law_2213 (by decide) dL_law_2214 dL_law_2215 rfl rfl ?_
  refine LW_al F dL_law_2216 rfl 3 rfl ?_
  refine LW_cW F (d := 99) (g := mL_gust) (sa := []) [.ref 0, .int (xs (t + 1)), .int (xs (t + 2)), .ref 143] (by decide) dL_law_2217 (wGm 1276 (by decide +kernel) rfl) mgL_gust rfl rfl (by decide) (by omega) (wK_of (fun v => v.toInt64) (P_gust (d := 90) hq) (fun K h => cL_gust_ h)) (fun r m1 k1 hk => ?_)
  obtain ⟨c0, rfl, k1le, h3⟩ := hk
  refine ⟨_, rfl, k1le, ?_⟩
  show LW G (kc + 1) 2220 (LL G t) [.int c0] m1
  refine LW_is F (L' := [(5, .int c0), (0, .ref (gB G)), (1, .ref (gA G 0)), (2, .ref (gA G 106)), (3, .ref (gA G 143)), (4, .int (nI t))]) dL_law_2220 (by decide) rfl ?_
  refine LW_al F dL_law_2222 rfl 3 rfl ?_
  refine LW_ld F 1 1 5 ht (by omega) dL_law_2223 dL_law_2224 dL_law_2226 (by decide) dL_law_2227 dL_law_2228 rfl rfl ?_
  refine LW_ld F 2 1 5 ht (by omega) dL_law_2229 dL_law_2230 dL_law_2232 (by decide) dL_law_2233 dL_law_2234 rfl rfl ?_
  refine LW_cVi F (d := 98) (g := mX9_gust) (sa := []) [.int (xs (t + 1)), .int (xs (t + 2))] (by decide) dL_law_2235 (wGm 1936 (by decide +kernel) rfl) mgX9_gust rfl mvX9_gust (zrv zl106 _ rfl rfl) rfl rfl (Nat.le_of_ble_eq_true rfl) (by omega) (h3.imp (fun v m3 hk => ?_) (fun _ _ h => h))
  obtain ⟨e1, e2, q⟩ := hk
  refine LW_is F (L' := [(6, .int v), (5, .int c0), (0, .ref (gB G)), (1, .ref (gA G 0)), (2, .ref (gA G 106)), (3, .ref (gA G 143)), (4, .int (nI t))]) dL_law_2238 (by decide) rfl ?_
  refine LW_al F dL_law_2240 rfl 4 rfl ?_
  refine LW_cVi F (d := 98) (g := mX9_thrown) (sa := []) [] (by decide) dL_law_2241 (wGm 1569 (by decide +kernel) rfl) mgX9_thrown rfl mvX9_thrown (zrv zl106 _ rfl rfl) rfl rfl (Nat.le_of_ble_eq_true rfl) (by omega) (cX9_thrown_ (d := 97) ?_)
  show LW G (kc + 3) 2244 [(6, .int v), (5, .int c0), (0, .ref (gB G)), (1, .ref (gA G 0)), (2, .ref (gA G 106)), (3, .ref (gA G 143)), (4, .int (nI t))] [.int (m3 106 3)] m3
  refine LW_il F dL_law_2244 1 rfl ?_
  refine LW_eq F 2251 dL_law_2246 (by decide) e1 ?_
  refine LW_il F dL_law_2251 1 rfl ?_
  refine LW_ne0 F 2268 dL_law_2253 (by decide) (fun z => LW_go F 2682 dL_law_2268 (by decide) (LW.sub [2, 3, 4, 5, 6] rfl (fin _ q))) (fun z => ?_)
  refine LW_al F dL_law_2256 rfl 5 rfl ?_
  refine LW_ic F (v := 0) dL_law_2257 (by decide) ?_
  refine LW_lald F dL_law_2258 ?_
  rw [e2 z]
  refine LW_il F dL_law_2259 0 rfl ?_
  refine LW_i2l F dL_law_2261 ?_
  refine LW_lq F 2268 dL_law_2262 dL_law_2263 (by decide) rfl ?_
  refine LW_go F 2682 dL_law_2268 (by decide) ?_
  exact LW.sub [2, 3, 4, 5, 6] rfl (fin _ q)
theorem lc_30 {G : LG} {Ls : Nat} {xs : Nat → Int32} {kc t : Nat} {μ : zMem} (F : LF G Ls xs) (ht : t + 6 ≤ Ls) (hc : kc ≤ 1990) (hQ : QI μ) (fin : ∀ μ', QI μ' → LW G (kc + 3) 2682 (LL G t) [] μ') : LW G kc 2271 (LL G t) [] μ := by
  obtain ⟨n, S, D, tn, tb, FF, T, K, M, hq⟩ := hQ
  refine LW_al F dL_law_2271 rfl 1 rfl ?_
  refine LW_ld F 1 0 4 ht (by omega) dL_law_2272 dL_law_2273 dL_law_2275 (by decide) dL_law_2276 dL_law_2277 rfl rfl ?_
  refine LW_ld F 2 0 4 ht (by omega) dL_law_2278 dL_law_2279 dL_law_2281 (by decide) dL_law_2282 dL_law_2283 rfl rfl ?_
  refine LW_ld F 3 0 4 ht (by omega) dL_law_2284 dL_law_2285 dL_law_2287 (by decide) dL_law_2288 dL_law_2289 rfl rfl ?_
  refine LW_al F dL_law_2290 rfl 3 rfl ?_
  refine LW_cW F (d := 99) (g := mL_calm) (sa := []) [.ref 0, .int (xs (t + 1)), .int (xs (t + 2)), .int (xs (t + 3)), .ref 143] (by decide) dL_law_2291 (wGm 1294 (by decide +kernel) rfl) mgL_calm rfl rfl (by decide) (by omega) (wKl_of (P_calm (d := 90) hq) (fun K h => cL_calm_ h)) (fun r m1 k1 hk => ?_)
  obtain ⟨c0, rfl, k1le, h3⟩ := hk
  refine ⟨_, rfl, k1le, ?_⟩
  show LW G (kc + 1) 2294 (LL G t) [.int c0] m1
  refine LW_is F (L' := [(5, .int c0), (0, .ref (gB G)), (1, .ref (gA G 0)), (2, .ref (gA G 106)), (3, .ref (gA G 143)), (4, .int (nI t))]) dL_law_2294 (by decide) rfl ?_
  refine LW_al F dL_law_2296 rfl 3 rfl ?_
  refine LW_ld F 1 1 5 ht (by omega) dL_law_2297 dL_law_2298 dL_law_2300 (by decide) dL_law_2301 dL_law_2302 rfl rfl ?_
  refine LW_ld F 2 1 5 ht (by omega) dL_law_2303 dL_law_2304 dL_law_2306 (by decide) dL_law_2307 dL_law_2308 rfl rfl ?_
  refine LW_ld F 3 1 5 ht (by omega) dL_law_2309 dL_law_2310 dL_law_2312 (by decide) dL_law_2313 dL_law_2314 rfl rfl ?_
  refine LW_cVl F (d := 98) (g := mX9_calm) (sa := []) [.int (xs (t + 1)), .int (xs (t + 2)), .int (xs (t + 3))] (by decide) dL_law_2315 (wGm 1951 (by decide +kernel) rfl) mgX9_calm rfl mvX9_calm (zrv zl106 _ rfl rfl) rfl rfl (Nat.le_of_ble_eq_true rfl) (by omega) (h3.imp (fun v m3 hk => ?_) (fun _ _ h => h))
  obtain ⟨e1, e2, q⟩ := hk
  refine LW_lst F (L' := [(6, .long v), (5, .int c0), (0, .ref (gB G)), (1, .ref (gA G 0)), (2, .ref (gA G 106)), (3, .ref (gA G 143)), (4, .int (nI t))]) dL_law_2318 (by decide) rfl ?_
  refine LW_al F dL_law_2320 rfl 4 rfl ?_
  refine LW_cVi F (d := 98) (g := mX9_thrown) (sa := []) [] (by decide) dL_law_2321 (wGm 1569 (by decide +kernel) rfl) mgX9_thrown rfl mvX9_thrown (zrv zl106 _ rfl rfl) rfl rfl (Nat.le_of_ble_eq_true rfl) (by omega) (cX9_thrown_ (d := 97) ?_)
  show LW G (kc + 3) 2324 [(6, .long v), (5, .int c0), (0, .ref (gB G)), (1, .ref (gA G 0)), (2, .ref (gA G 106)), (3, .ref (gA G 143)), (4, .int (nI t))] [.int (m3 106 3)] m3
  refine LW_il F dL_law_2324 1 rfl ?_
  refine LW_eq F 2331 dL_law_2326 (by decide) e1 ?_
  refine LW_il F dL_law_2331 1 rfl ?_
  refine LW_ne0 F 2347 dL_law_2333 (by decide) (fun z => LW_go F 2682 dL_law_2347 (by decide) (LW.sub [2, 3, 4, 5, 6] rfl (fin _ q))) (fun z => ?_)
  refine LW_al F dL_law_2336 rfl 5 rfl ?_
  refine LW_ic F (v := 0) dL_law_2337 (by decide) ?_
  refine LW_lald F dL_law_2338 ?_
  rw [e2 z]
  refine LW_ll F dL_law_2339 0 rfl ?_
  refine LW_lq F 2347 dL_law_2341 dL_law_2342 (by decide) rfl ?_
  refine LW_go F 2682 dL_law_2347 (by decide) ?_
  exact LW.sub [2, 3, 4, 5, 6] rfl (fin _ q)
theorem lc_31 {G : LG} {Ls : Nat} {xs : Nat → Int32} {kc t : Nat} {μ : zMem} (F : LF G Ls xs) (ht : t + 6 ≤ Ls) (hc : kc ≤ 1990) (hQ : QI μ) (fin : ∀ μ', QI μ' → LW G (kc + 3) 2682 (LL G t) [] μ') : LW G kc 2350 (LL G t) [] μ := by
  obtain ⟨n, S, D, tn, tb, FF, T, K, M, hq⟩ := hQ
  refine LW_al F dL_law_2350 rfl 1 rfl ?_
  refine LW_ld F 1 0 4 ht (by omega) dL_law_2351 dL_law_2352 dL_law_2354 (by decide) dL_law_2355 dL_law_2356 rfl rfl ?_
  refine LW_ld F 2 0 4 ht (by omega) dL_law_2357 dL_law_2358 dL_law_2360 (by decide) dL_law_2361 dL_law_2362 rfl rfl ?_
  refine LW_ld F 3 0 4 ht (by omega) dL_law_2363 dL_law_2364 dL_law_2366 (by decide) dL_law_2367 dL_law_2368 rfl rfl ?_
  refine LW_al F dL_law_2369 rfl 3 rfl ?_
  refine LW_cW F (d := 99) (g := mL_view) (sa := []) [.ref 0, .int (xs (t + 1)), .int (xs (t + 2)), .int (xs (t + 3)), .ref 143] (by decide) dL_law_2370 (wGm 1301 (by decide +kernel) rfl) mgL_view rfl rfl (by decide) (by omega) (wK_of (fun v => v.toInt64) (P_view (d := 91) hq) (fun K h => cL_view_ h)) (fun r m1 k1 hk => ?_)
  obtain ⟨c0, rfl, k1le, h3⟩ := hk
  refine ⟨_, rfl, k1le, ?_⟩
  show LW G (kc + 1) 2373 (LL G t) [.int c0] m1
  refine LW_is F (L' := [(5, .int c0), (0, .ref (gB G)), (1, .ref (gA G 0)), (2, .ref (gA G 106)), (3, .ref (gA G 143)), (4, .int (nI t))]) dL_law_2373 (by decide) rfl ?_
  refine LW_al F dL_law_2375 rfl 3 rfl ?_
  refine LW_ld F 1 1 5 ht (by omega) dL_law_2376 dL_law_2377 dL_law_2379 (by decide) dL_law_2380 dL_law_2381 rfl rfl ?_
  refine LW_ld F 2 1 5 ht (by omega) dL_law_2382 dL_law_2383 dL_law_2385 (by decide) dL_law_2386 dL_law_2387 rfl rfl ?_
  refine LW_ld F 3 1 5 ht (by omega) dL_law_2388 dL_law_2389 dL_law_2391 (by decide) dL_law_2392 dL_law_2393 rfl rfl ?_
  refine LW_cVi F (d := 98) (g := mX9_view) (sa := []) [.int (xs (t + 1)), .int (xs (t + 2)), .int (xs (t + 3))] (by decide) dL_law_2394 (wGm 1955 (by decide +kernel) rfl) mgX9_view rfl mvX9_view (zrv zl106 _ rfl rfl) rfl rfl (Nat.le_of_ble_eq_true rfl) (by omega) (h3.imp (fun v m3 hk => ?_) (fun _ _ h => h))
  obtain ⟨e1, e2, q⟩ := hk
  refine LW_is F (L' := [(6, .int v), (5, .int c0), (0, .ref (gB G)), (1, .ref (gA G 0)), (2, .ref (gA G 106)), (3, .ref (gA G 143)), (4, .int (nI t))]) dL_law_2397 (by decide) rfl ?_
  refine LW_al F dL_law_2399 rfl 4 rfl ?_
  refine LW_cVi F (d := 98) (g := mX9_thrown) (sa := []) [] (by decide) dL_law_2400 (wGm 1569 (by decide +kernel) rfl) mgX9_thrown rfl mvX9_thrown (zrv zl106 _ rfl rfl) rfl rfl (Nat.le_of_ble_eq_true rfl) (by omega) (cX9_thrown_ (d := 97) ?_)
  show LW G (kc + 3) 2403 [(6, .int v), (5, .int c0), (0, .ref (gB G)), (1, .ref (gA G 0)), (2, .ref (gA G 106)), (3, .ref (gA G 143)), (4, .int (nI t))] [.int (m3 106 3)] m3
  refine LW_il F dL_law_2403 1 rfl ?_
  refine LW_eq F 2410 dL_law_2405 (by decide) e1 ?_
  refine LW_il F dL_law_2410 1 rfl ?_
  refine LW_ne0 F 2427 dL_law_2412 (by decide) (fun z => LW_go F 2682 dL_law_2427 (by decide) (LW.sub [2, 3, 4, 5, 6] rfl (fin _ q))) (fun z => ?_)
  refine LW_al F dL_law_2415 rfl 5 rfl ?_
  refine LW_ic F (v := 0) dL_law_2416 (by decide) ?_
  refine LW_lald F dL_law_2417 ?_
  rw [e2 z]
  refine LW_il F dL_law_2418 0 rfl ?_
  refine LW_i2l F dL_law_2420 ?_
  refine LW_lq F 2427 dL_law_2421 dL_law_2422 (by decide) rfl ?_
  refine LW_go F 2682 dL_law_2427 (by decide) ?_
  exact LW.sub [2, 3, 4, 5, 6] rfl (fin _ q)
theorem lc_32 {G : LG} {Ls : Nat} {xs : Nat → Int32} {kc t : Nat} {μ : zMem} (F : LF G Ls xs) (ht : t + 6 ≤ Ls) (hc : kc ≤ 1990) (hQ : QI μ) (fin : ∀ μ', QI μ' → LW G (kc + 3) 2682 (LL G t) [] μ') : LW G kc 2430 (LL G t) [] μ := by
  obtain ⟨n, S, D, tn, tb, FF, T, K, M, hq⟩ := hQ
  refine LW_al F dL_law_2430 rfl 1 rfl ?_
  refine LW_ld F 1 0 4 ht (by omega) dL_law_2431 dL_law_2432 dL_law_2434 (by decide) dL_law_2435 dL_law_2436 rfl rfl ?_
  refine LW_ld F 2 0 4 ht (by omega) dL_law_2437 dL_law_2438 dL_law_2440 (by decide) dL_law_2441 dL_law_2442 rfl rfl ?_
  refine LW_ld F 3 0 4 ht (by omega) dL_law_2443 dL_law_2444 dL_law_2446 (by decide) dL_law_2447 dL_law_2448 rfl rfl ?_
  refine LW_ld F 4 0 4 ht (by omega) dL_law_2449 dL_law_2450 dL_law_2452 (by decide) dL_law_2453 dL_law_2454 rfl rfl ?_
  refine LW_al F dL_law_2455 rfl 3 rfl ?_
  refine LW_cW F (d := 99) (g := mL_debt) (sa := []) [.ref 0, .int (xs (t + 1)), .int (xs (t + 2)), .int (xs (t + 3)), .int (xs (t + 4)), .ref 143] (by decide) dL_law_2456 (wGm 1312 (by decide +kernel) rfl) mgL_debt rfl rfl (by decide) (by omega) (wK_of (fun v => v.toInt64) (P_debt (d := 90) hq) (fun K h => cL_debt_ h)) (fun r m1 k1 hk => ?_)
  obtain ⟨c0, rfl, k1le, h3⟩ := hk
  refine ⟨_, rfl, k1le, ?_⟩
  show LW G (kc + 1) 2459 (LL G t) [.int c0] m1
  refine LW_is F (L' := [(5, .int c0), (0, .ref (gB G)), (1, .ref (gA G 0)), (2, .ref (gA G 106)), (3, .ref (gA G 143)), (4, .int (nI t))]) dL_law_2459 (by decide) rfl ?_
  refine LW_al F dL_law_2461 rfl 3 rfl ?_
  refine LW_ld F 1 1 5 ht (by omega) dL_law_2462 dL_law_2463 dL_law_2465 (by decide) dL_law_2466 dL_law_2467 rfl rfl ?_
  refine LW_ld F 2 1 5 ht (by omega) dL_law_2468 dL_law_2469 dL_law_2471 (by decide) dL_law_2472 dL_law_2473 rfl rfl ?_
  refine LW_ld F 3 1 5 ht (by omega) dL_law_2474 dL_law_2475 dL_law_2477 (by decide) dL_law_2478 dL_law_2479 rfl rfl ?_
  refine LW_ld F 4 1 5 ht (by omega) dL_law_2480 dL_law_2481 dL_law_2483 (by decide) dL_law_2484 dL_law_2485 rfl rfl ?_
  refine LW_cVi F (d := 98) (g := mX9_debt) (sa := []) [.int (xs (t + 1)), .int (xs (t + 2)), .int (xs (t + 3)), .int (xs (t + 4))] (by decide) dL_law_2486 (wGm 1964 (by decide +kernel) rfl) mgX9_debt rfl mvX9_debt (zrv zl106 _ rfl rfl) rfl rfl (Nat.le_of_ble_eq_true rfl) (by omega) (h3.imp (fun v m3 hk => ?_) (fun _ _ h => h))
  obtain ⟨e1, e2, q⟩ := hk
  refine LW_is F (L' := [(6, .int v), (5, .int c0), (0, .ref (gB G)), (1, .ref (gA G 0)), (2, .ref (gA G 106)), (3, .ref (gA G 143)), (4, .int (nI t))]) dL_law_2489 (by decide) rfl ?_
  refine LW_al F dL_law_2491 rfl 4 rfl ?_
  refine LW_cVi F (d := 98) (g := mX9_thrown) (sa := []) [] (by decide) dL_law_2492 (wGm 1569 (by decide +kernel) rfl) mgX9_thrown rfl mvX9_thrown (zrv zl106 _ rfl rfl) rfl rfl (Nat.le_of_ble_eq_true rfl) (by omega) (cX9_thrown_ (d := 97) ?_)
  show LW G (kc + 3) 2495 [(6, .int v), (5, .int c0), (0, .ref (gB G)), (1, .ref (gA G 0)), (2, .ref (gA G 106)), (3, .ref (gA G 143)), (4, .int (nI t))] [.int (m3 106 3)] m3
  refine LW_il F dL_law_2495 1 rfl ?_
  refine LW_eq F 2502 dL_law_2497 (by decide) e1 ?_
  refine LW_il F dL_law_2502 1 rfl ?_
  refine LW_ne0 F 2519 dL_law_2504 (by decide) (fun z => LW_go F 2682 dL_law_2519 (by decide) (LW.sub [2, 3, 4, 5, 6] rfl (fin _ q))) (fun z => ?_)
  refine LW_al F dL_law_2507 rfl 5 rfl ?_
  refine LW_ic F (v := 0) dL_law_2508 (by decide) ?_
  refine LW_lald F dL_law_2509 ?_
  rw [e2 z]
  refine LW_il F dL_law_2510 0 rfl ?_
  refine LW_i2l F dL_law_2512 ?_
  refine LW_lq F 2519 dL_law_2513 dL_law_2514 (by decide) rfl ?_
  refine LW_go F 2682 dL_law_2519 (by decide) ?_
  exact LW.sub [2, 3, 4, 5, 6] rfl (fin _ q)
theorem lc_33 {G : LG} {Ls : Nat} {xs : Nat → Int32} {kc t : Nat} {μ : zMem} (F : LF G Ls xs) (ht : t + 6 ≤ Ls) (hc : kc ≤ 1990) (hQ : QI μ) (fin : ∀ μ', QI μ' → LW G (kc + 3) 2682 (LL G t) [] μ') : LW G kc 2522 (LL G t) [] μ := by
  obtain ⟨n, S, D, tn, tb, FF, T, K, M, hq⟩ := hQ
  refine LW_al F dL_law_2522 rfl 1 rfl ?_
  refine LW_ld F 1 0 4 ht (by omega) dL_law_2523 dL_law_2524 dL_law_2526 (by decide) dL_law_2527 dL_law_2528 rfl rfl ?_
  refine LW_ld F 2 0 4 ht (by omega) dL_law_2529 dL_law_2530 dL_law_2532 (by decide) dL_law_2533 dL_law_2534 rfl rfl ?_
  refine LW_al F dL_law_2535 rfl 3 rfl ?_
  refine LW_cW F (d := 99) (g := mL_rich) (sa := []) [.ref 0, .int (xs (t + 1)), .int (xs (t + 2)), .ref 143] (by decide) dL_law_2536 (wGm 1328 (by decide +kernel) rfl) mgL_rich rfl rfl (by decide) (by omega) (wK_of (fun v => v.toInt64) (P_rich (d := 90) hq) (fun K h => cL_rich_ h)) (fun r m1 k1 hk => ?_)
  obtain ⟨c0, rfl, k1le, h3⟩ := hk
  refine ⟨_, rfl, k1le, ?_⟩
  show LW G (kc + 1) 2539 (LL G t) [.int c0] m1
  refine LW_is F (L' := [(5, .int c0), (0, .ref (gB G)), (1, .ref (gA G 0)), (2, .ref (gA G 106)), (3, .ref (gA G 143)), (4, .int (nI t))]) dL_law_2539 (by decide) rfl ?_
  refine LW_al F dL_law_2541 rfl 3 rfl ?_
  refine LW_ld F 1 1 5 ht (by omega) dL_law_2542 dL_law_2543 dL_law_2545 (by decide) dL_law_2546 dL_law_2547 rfl rfl ?_
  refine LW_ld F 2 1 5 ht (by omega) dL_law_2548 dL_law_2549 dL_law_2551 (by decide) dL_law_2552 dL_law_2553 rfl rfl ?_
  refine LW_cVi F (d := 98) (g := mX9_rich) (sa := []) [.int (xs (t + 1)), .int (xs (t + 2))] (by decide) dL_law_2554 (wGm 1976 (by decide +kernel) rfl) mgX9_rich rfl mvX9_rich (zrv zl106 _ rfl rfl) rfl rfl (Nat.le_of_ble_eq_true rfl) (by omega) (h3.imp (fun v m3 hk => ?_) (fun _ _ h => h))
  obtain ⟨e1, e2, q⟩ := hk
  refine LW_is F (L' := [(6, .int v), (5, .int c0), (0, .ref (gB G)), (1, .ref (gA G 0)), (2, .ref (gA G 106)), (3, .ref (gA G 143)), (4, .int (nI t))]) dL_law_2557 (by decide) rfl ?_
  refine LW_al F dL_law_2559 rfl 4 rfl ?_
  refine LW_cVi F (d := 98) (g := mX9_thrown) (sa := []) [] (by decide) dL_law_2560 (wGm 1569 (by decide +kernel) rfl) mgX9_thrown rfl mvX9_thrown (zrv zl106 _ rfl rfl) rfl rfl (Nat.le_of_ble_eq_true rfl) (by omega) (cX9_thrown_ (d := 97) ?_)
  show LW G (kc + 3) 2563 [(6, .int v), (5, .int c0), (0, .ref (gB G)), (1, .ref (gA G 0)), (2, .ref (gA G 106)), (3, .ref (gA G 143)), (4, .int (nI t))] [.int (m3 106 3)] m3
  refine LW_il F dL_law_2563 1 rfl ?_
  refine LW_eq F 2570 dL_law_2565 (by decide) e1 ?_
  refine LW_il F dL_law_2570 1 rfl ?_
  refine LW_ne0 F 2587 dL_law_2572 (by decide) (fun z => LW_go F 2682 dL_law_2587 (by decide) (LW.sub [2, 3, 4, 5, 6] rfl (fin _ q))) (fun z => ?_)
  refine LW_al F dL_law_2575 rfl 5 rfl ?_
  refine LW_ic F (v := 0) dL_law_2576 (by decide) ?_
  refine LW_lald F dL_law_2577 ?_
  rw [e2 z]
  refine LW_il F dL_law_2578 0 rfl ?_
  refine LW_i2l F dL_law_2580 ?_
  refine LW_lq F 2587 dL_law_2581 dL_law_2582 (by decide) rfl ?_
  refine LW_go F 2682 dL_law_2587 (by decide) ?_
  exact LW.sub [2, 3, 4, 5, 6] rfl (fin _ q)
theorem lc_34 {G : LG} {Ls : Nat} {xs : Nat → Int32} {kc t : Nat} {μ : zMem} (F : LF G Ls xs) (ht : t + 6 ≤ Ls) (hc : kc ≤ 1990) (hQ : QI μ) (fin : ∀ μ', QI μ' → LW G (kc + 3) 2682 (LL G t) [] μ') : LW G kc 2590 (LL G t) [] μ := by
  obtain ⟨n, S, D, tn, tb, FF, T, K, M, hq⟩ := hQ
  refine LW_al F dL_law_2590 rfl 1 rfl ?_
  refine LW_ld F 1 0 4 ht (by omega) dL_law_2591 dL_law_2592 dL_law_2594 (by decide) dL_law_2595 dL_law_2596 rfl rfl ?_
  refine LW_ld F 2 0 4 ht (by omega) dL_law_2597 dL_law_2598 dL_law_2600 (by decide) dL_law_2601 dL_law_2602 rfl rfl ?_
  refine LW_al F dL_law_2603 rfl 3 rfl ?_
  refine LW_cW F (d := 99) (g := mL_week) (sa := []) [.ref 0, .int (xs (t + 1)), .int (xs (t + 2)), .ref 143] (by decide) dL_law_2604 (wGm 1335 (by decide +kernel) rfl) mgL_week rfl rfl (by decide) (by omega) (wK_of (fun v => v.toInt64) (P_week (d := 90) hq) (fun K h => cL_week_ h)) (fun r m1 k1 hk => ?_)
  obtain ⟨c0, rfl, k1le, h3⟩ := hk
  refine ⟨_, rfl, k1le, ?_⟩
  show LW G (kc + 1) 2607 (LL G t) [.int c0] m1
  refine LW_is F (L' := [(5, .int c0), (0, .ref (gB G)), (1, .ref (gA G 0)), (2, .ref (gA G 106)), (3, .ref (gA G 143)), (4, .int (nI t))]) dL_law_2607 (by decide) rfl ?_
  refine LW_al F dL_law_2609 rfl 3 rfl ?_
  refine LW_ld F 1 1 5 ht (by omega) dL_law_2610 dL_law_2611 dL_law_2613 (by decide) dL_law_2614 dL_law_2615 rfl rfl ?_
  refine LW_ld F 2 1 5 ht (by omega) dL_law_2616 dL_law_2617 dL_law_2619 (by decide) dL_law_2620 dL_law_2621 rfl rfl ?_
  refine LW_cVi F (d := 98) (g := mX9_week) (sa := []) [.int (xs (t + 1)), .int (xs (t + 2))] (by decide) dL_law_2622 (wGm 1980 (by decide +kernel) rfl) mgX9_week rfl mvX9_week (zrv zl106 _ rfl rfl) rfl rfl (Nat.le_of_ble_eq_true rfl) (by omega) (h3.imp (fun v m3 hk => ?_) (fun _ _ h => h))
  obtain ⟨e1, e2, q⟩ := hk
  refine LW_is F (L' := [(6, .int v), (5, .int c0), (0, .ref (gB G)), (1, .ref (gA G 0)), (2, .ref (gA G 106)), (3, .ref (gA G 143)), (4, .int (nI t))]) dL_law_2625 (by decide) rfl ?_
  refine LW_al F dL_law_2627 rfl 4 rfl ?_
  refine LW_cVi F (d := 98) (g := mX9_thrown) (sa := []) [] (by decide) dL_law_2628 (wGm 1569 (by decide +kernel) rfl) mgX9_thrown rfl mvX9_thrown (zrv zl106 _ rfl rfl) rfl rfl (Nat.le_of_ble_eq_true rfl) (by omega) (cX9_thrown_ (d := 97) ?_)
  show LW G (kc + 3) 2631 [(6, .int v), (5, .int c0), (0, .ref (gB G)), (1, .ref (gA G 0)), (2, .ref (gA G 106)), (3, .ref (gA G 143)), (4, .int (nI t))] [.int (m3 106 3)] m3
  refine LW_il F dL_law_2631 1 rfl ?_
  refine LW_eq F 2638 dL_law_2633 (by decide) e1 ?_
  refine LW_il F dL_law_2638 1 rfl ?_
  refine LW_ne0 F 2655 dL_law_2640 (by decide) (fun z => LW_go F 2682 dL_law_2655 (by decide) (LW.sub [2, 3, 4, 5, 6] rfl (fin _ q))) (fun z => ?_)
  refine LW_al F dL_law_2643 rfl 5 rfl ?_
  refine LW_ic F (v := 0) dL_law_2644 (by decide) ?_
  refine LW_lald F dL_law_2645 ?_
  rw [e2 z]
  refine LW_il F dL_law_2646 0 rfl ?_
  refine LW_i2l F dL_law_2648 ?_
  refine LW_lq F 2655 dL_law_2649 dL_law_2650 (by decide) rfl ?_
  refine LW_go F 2682 dL_law_2655 (by decide) ?_
  exact LW.sub [2, 3, 4, 5, 6] rfl (fin _ q)
theorem lc_35 {G : LG} {Ls : Nat} {xs : Nat → Int32} {kc t : Nat} {μ : zMem} (F : LF G Ls xs) (ht : t + 6 ≤ Ls) (hc : kc ≤ 1990) (hQ : QI μ) (fin : ∀ μ', QI μ' → LW G (kc + 3) 2682 (LL G t) [] μ') : LW G kc 2658 (LL G t) [] μ := by
  obtain ⟨n, S, D, tn, tb, FF, T, K, M, hq⟩ := hQ
  refine LW_al F dL_law_2658 rfl 1 rfl ?_
  refine LW_cVv F (d := 98) (g := mX8_image) (sa := []) [] (by decide) dL_law_2659 (wGm 510 (by decide +kernel) rfl) mgX8_image rfl mvX8_image (zrv zl0 _ rfl rfl) rfl rfl (Nat.le_of_ble_eq_true rfl) (by omega) ((P_image (d := 95) hq) _ zNo (fun m1 f1 h2 => ?_))
  refine LW_al F dL_law_2662 rfl 2 rfl ?_
  refine LW_cVv F (d := 98) (g := mX9_image) (sa := []) [] (by decide) dL_law_2663 (wGm 1989 (by decide +kernel) rfl) mgX9_image rfl mvX9_image (zrv zl106 _ rfl rfl) rfl rfl (Nat.le_of_ble_eq_true rfl) (by omega) ((h2 m1 Fr.rf).imp (fun m3 hk => ?_) (fun _ _ h => h))
  obtain ⟨q, -⟩ := hk
  refine LW_go F 2682 dL_law_2666 (by decide) ?_
  exact LW.le (kc' := kc + 3) (by omega) (fin _ q)
theorem lc_36 {G : LG} {Ls : Nat} {xs : Nat → Int32} {kc t : Nat} {μ : zMem} (F : LF G Ls xs) (ht : t + 6 ≤ Ls) (hc : kc ≤ 1990) (hQ : QI μ) (fin : ∀ μ', QI μ' → LW G (kc + 3) 2682 (LL G t) [] μ') : LW G kc 2669 (LL G t) [] μ := by
  obtain ⟨n, S, D, tn, tb, FF, T, K, M, hq⟩ := hQ
  refine LW_al F dL_law_2669 rfl 1 rfl ?_
  refine LW_cVi F (d := 98) (g := mX8_restore) (sa := []) [] (by decide) dL_law_2670 (wGm 526 (by decide +kernel) rfl) mgX8_restore rfl mvX8_restore (zrv zl0 _ rfl rfl) rfl rfl (Nat.le_of_ble_eq_true rfl) (by omega) ((P_restore (d := 95) hq) _ zNo (fun v1 m1 f1 h2 => ?_) (fun E m1 _ _ z => absurd rfl z))
  refine LW_al F dL_law_2673 rfl 2 rfl ?_
  refine LW_cVi F (d := 98) (g := mX9_restore) (sa := [.int v1]) [] (by decide) dL_law_2674 (wGm 1996 (by decide +kernel) rfl) mgX9_restore rfl mvX9_restore (zrv zl106 _ rfl rfl) rfl rfl (Nat.le_of_ble_eq_true rfl) (by omega) ((h2 m1 Fr.rf).imp (fun v m3 hk => ?_) (fun _ _ h => h))
  obtain ⟨-, e2, q, -⟩ := hk
  refine LW_eq F 2682 dL_law_2677 (by decide) e2.symm ?_
  exact LW.le (kc' := kc + 3) (by omega) (fin _ q)
