theorem k_0 {GC GM : Geo} {K : KT} {l0 : Launch} {b bS L i S : Nat} {xs : Nat → Int32} {σ τ : Store} (hK : lOk GC GM K l0 b bS L xs) (hL : L ≤ 384) (hi : i + 5 < L) (hS : S ≤ 2000000) (R : Rel S σ τ) (kk : ∀ σ1 τ1, Rel (S + 3600) σ1 τ1 → lV GC GM K b σ1 τ1 1546 (lL GC GM bS i) []) : lV GC GM K b σ τ 224 (lL GC GM bS i) [] := by
  obtain ⟨r, σ1, τ1, h8, h9, R1⟩ := o_word R (xs (i + 1)) (xs (i + 2)) (xs (i + 3)) (xs (i + 4))
  refine l_ldC (q := 225) hK dL_law_224 rfl ?_
  refine l_arg (k := 1) (q := 230) hK dL_law_225 dL_law_226 dL_law_227 dL_law_228 dL_law_229 (by decide) hL (by omega) rfl ?_
  refine l_arg (k := 2) (q := 235) hK dL_law_230 dL_law_231 dL_law_232 dL_law_233 dL_law_234 (by decide) hL (by omega) rfl ?_
  refine l_arg (k := 3) (q := 240) hK dL_law_235 dL_law_236 dL_law_237 dL_law_238 dL_law_239 (by decide) hL (by omega) rfl ?_
  refine l_arg (k := 4) (q := 245) hK dL_law_240 dL_law_241 dL_law_242 dL_law_243 dL_law_244 (by decide) hL (by omega) rfl ?_
  refine l_callC (q := 248) (As := [.int (xs (i + 1)), .int (xs (i + 2)), .int (xs (i + 3)), .int (xs (i + 4))]) (rest := []) hK dL_law_245 rfl (c_X8_word _ _ _ _ _ _ h8) rfl mv_X8_word rfl rfl (Nat.le_of_ble_eq_true rfl) tw_307 mw_X8_word ⟨⟨rfl, rfl⟩, Nat.le_of_ble_eq_true rfl, Nat.le_of_ble_eq_true rfl⟩ ?_
  refine l_ldM (q := 249) hK dL_law_248 rfl ?_
  refine l_arg (k := 1) (q := 254) hK dL_law_249 dL_law_250 dL_law_251 dL_law_252 dL_law_253 (by decide) hL (by omega) rfl ?_
  refine l_arg (k := 2) (q := 259) hK dL_law_254 dL_law_255 dL_law_256 dL_law_257 dL_law_258 (by decide) hL (by omega) rfl ?_
  refine l_arg (k := 3) (q := 264) hK dL_law_259 dL_law_260 dL_law_261 dL_law_262 dL_law_263 (by decide) hL (by omega) rfl ?_
  refine l_arg (k := 4) (q := 269) hK dL_law_264 dL_law_265 dL_law_266 dL_law_267 dL_law_268 (by decide) hL (by omega) rfl ?_
  refine l_callM (q := 272) (As := [.int (xs (i + 1)), .int (xs (i + 2)), .int (xs (i + 3)), .int (xs (i + 4))]) (rest := [.int r]) hK dL_law_269 rfl (c_X9_word _ _ _ _ _ _ h9) rfl mv_X9_word rfl rfl (Nat.le_of_ble_eq_true rfl) tw_893 mw_X9_word ⟨⟨rfl, rfl⟩, Nat.le_of_ble_eq_true rfl, Nat.le_of_ble_eq_true rfl⟩ ?_
  exact l_eq hK dL_law_272 (by decide) (kk σ1 τ1 (R1.mono (by omega)))
theorem k_1 {GC GM : Geo} {K : KT} {l0 : Launch} {b bS L i S : Nat} {xs : Nat → Int32} {σ τ : Store} (hK : lOk GC GM K l0 b bS L xs) (hL : L ≤ 384) (hi : i + 5 < L) (hS : S ≤ 2000000) (R : Rel S σ τ) (kk : ∀ σ1 τ1, Rel (S + 3600) σ1 τ1 → lV GC GM K b σ1 τ1 1546 (lL GC GM bS i) []) : lV GC GM K b σ τ 277 (lL GC GM bS i) [] := by
  obtain ⟨r, σ1, τ1, h8, h9, R1⟩ := o_told R (xs (i + 1)) (xs (i + 2))
  refine l_ldC (q := 278) hK dL_law_277 rfl ?_
  refine l_arg (k := 1) (q := 283) hK dL_law_278 dL_law_279 dL_law_280 dL_law_281 dL_law_282 (by decide) hL (by omega) rfl ?_
  refine l_arg (k := 2) (q := 288) hK dL_law_283 dL_law_284 dL_law_285 dL_law_286 dL_law_287 (by decide) hL (by omega) rfl ?_
  refine l_callC (q := 291) (As := [.int (xs (i + 1)), .int (xs (i + 2))]) (rest := []) hK dL_law_288 rfl (c_X8_told _ _ _ _ h8) rfl mv_X8_told rfl rfl (Nat.le_of_ble_eq_true rfl) tw_323 mw_X8_told ⟨⟨rfl, rfl⟩, Nat.le_of_ble_eq_true rfl, Nat.le_of_ble_eq_true rfl⟩ ?_
  refine l_ldM (q := 292) hK dL_law_291 rfl ?_
  refine l_arg (k := 1) (q := 297) hK dL_law_292 dL_law_293 dL_law_294 dL_law_295 dL_law_296 (by decide) hL (by omega) rfl ?_
  refine l_arg (k := 2) (q := 302) hK dL_law_297 dL_law_298 dL_law_299 dL_law_300 dL_law_301 (by decide) hL (by omega) rfl ?_
  refine l_callM (q := 305) (As := [.int (xs (i + 1)), .int (xs (i + 2))]) (rest := [.int r]) hK dL_law_302 rfl (c_X9_told _ _ _ _ h9) rfl mv_X9_told rfl rfl (Nat.le_of_ble_eq_true rfl) tw_912 mw_X9_told ⟨⟨rfl, rfl⟩, Nat.le_of_ble_eq_true rfl, Nat.le_of_ble_eq_true rfl⟩ ?_
  exact l_eq hK dL_law_305 (by decide) (kk σ1 τ1 (R1.mono (by omega)))
theorem k_2 {GC GM : Geo} {K : KT} {l0 : Launch} {b bS L i S : Nat} {xs : Nat → Int32} {σ τ : Store} (hK : lOk GC GM K l0 b bS L xs) (hL : L ≤ 384) (hi : i + 5 < L) (hS : S ≤ 2000000) (R : Rel S σ τ) (kk : ∀ σ1 τ1, Rel (S + 3600) σ1 τ1 → lV GC GM K b σ1 τ1 1546 (lL GC GM bS i) []) : lV GC GM K b σ τ 310 (lL GC GM bS i) [] := by
  obtain ⟨r, h8, h9⟩ := o_as R (xs (i + 1)) (xs (i + 2))
  refine l_ldC (q := 311) hK dL_law_310 rfl ?_
  refine l_arg (k := 1) (q := 316) hK dL_law_311 dL_law_312 dL_law_313 dL_law_314 dL_law_315 (by decide) hL (by omega) rfl ?_
  refine l_arg (k := 2) (q := 321) hK dL_law_316 dL_law_317 dL_law_318 dL_law_319 dL_law_320 (by decide) hL (by omega) rfl ?_
  refine l_callC (q := 324) (As := [.int (xs (i + 1)), .int (xs (i + 2))]) (rest := []) hK dL_law_321 rfl (c_X8_as _ _ _ _ h8) rfl mv_X8_as rfl rfl (Nat.le_of_ble_eq_true rfl) tw_375 mw_X8_as ⟨⟨rfl, rfl⟩, Nat.le_of_ble_eq_true rfl, Nat.le_of_ble_eq_true rfl⟩ ?_
  refine l_ldM (q := 325) hK dL_law_324 rfl ?_
  refine l_arg (k := 1) (q := 330) hK dL_law_325 dL_law_326 dL_law_327 dL_law_328 dL_law_329 (by decide) hL (by omega) rfl ?_
  refine l_arg (k := 2) (q := 335) hK dL_law_330 dL_law_331 dL_law_332 dL_law_333 dL_law_334 (by decide) hL (by omega) rfl ?_
  refine l_callM (q := 338) (As := [.int (xs (i + 1)), .int (xs (i + 2))]) (rest := [.int r]) hK dL_law_335 rfl (c_X9_as _ _ _ _ h9) rfl mv_X9_as rfl rfl (Nat.le_of_ble_eq_true rfl) tw_951 mw_X9_as ⟨⟨rfl, rfl⟩, Nat.le_of_ble_eq_true rfl, Nat.le_of_ble_eq_true rfl⟩ ?_
  exact l_eq hK dL_law_338 (by decide) (kk σ τ (R.mono (by omega)))
theorem k_3 {GC GM : Geo} {K : KT} {l0 : Launch} {b bS L i S : Nat} {xs : Nat → Int32} {σ τ : Store} (hK : lOk GC GM K l0 b bS L xs) (hL : L ≤ 384) (hi : i + 5 < L) (hS : S ≤ 2000000) (R : Rel S σ τ) (kk : ∀ σ1 τ1, Rel (S + 3600) σ1 τ1 → lV GC GM K b σ1 τ1 1546 (lL GC GM bS i) []) : lV GC GM K b σ τ 343 (lL GC GM bS i) [] := by
  obtain ⟨r, σ1, τ1, h8, h9, R1⟩ := o_turns R (xs (i + 1)) (xs (i + 2))
  refine l_ldC (q := 344) hK dL_law_343 rfl ?_
  refine l_arg (k := 1) (q := 349) hK dL_law_344 dL_law_345 dL_law_346 dL_law_347 dL_law_348 (by decide) hL (by omega) rfl ?_
  refine l_arg (k := 2) (q := 354) hK dL_law_349 dL_law_350 dL_law_351 dL_law_352 dL_law_353 (by decide) hL (by omega) rfl ?_
  refine l_callC (q := 357) (As := [.int (xs (i + 1)), .int (xs (i + 2))]) (rest := []) hK dL_law_354 rfl (c_X8_turns _ _ _ _ h8) rfl mv_X8_turns rfl rfl (Nat.le_of_ble_eq_true rfl) tw_386 mw_X8_turns ⟨⟨rfl, rfl⟩, Nat.le_of_ble_eq_true rfl, Nat.le_of_ble_eq_true rfl⟩ ?_
  refine l_ldM (q := 358) hK dL_law_357 rfl ?_
  refine l_arg (k := 1) (q := 363) hK dL_law_358 dL_law_359 dL_law_360 dL_law_361 dL_law_362 (by decide) hL (by omega) rfl ?_
  refine l_arg (k := 2) (q := 368) hK dL_law_363 dL_law_364 dL_law_365 dL_law_366 dL_law_367 (by decide) hL (by omega) rfl ?_
  refine l_callM (q := 371) (As := [.int (xs (i + 1)), .int (xs (i + 2))]) (rest := [.int r]) hK dL_law_368 rfl (c_X9_turns _ _ _ _ h9) rfl mv_X9_turns rfl rfl (Nat.le_of_ble_eq_true rfl) tw_962 mw_X9_turns ⟨⟨rfl, rfl⟩, Nat.le_of_ble_eq_true rfl, Nat.le_of_ble_eq_true rfl⟩ ?_
  exact l_eq hK dL_law_371 (by decide) (kk σ1 τ1 (R1.mono (by omega)))
theorem k_4 {GC GM : Geo} {K : KT} {l0 : Launch} {b bS L i S : Nat} {xs : Nat → Int32} {σ τ : Store} (hK : lOk GC GM K l0 b bS L xs) (hL : L ≤ 384) (hi : i + 5 < L) (hS : S ≤ 2000000) (R : Rel S σ τ) (kk : ∀ σ1 τ1, Rel (S + 3600) σ1 τ1 → lV GC GM K b σ1 τ1 1546 (lL GC GM bS i) []) : lV GC GM K b σ τ 376 (lL GC GM bS i) [] := by
  obtain ⟨r, σ1, τ1, h8, h9, R1⟩ := o_set R (xs (i + 1)) (xs (i + 2)) (xs (i + 3))
  refine l_ldC (q := 377) hK dL_law_376 rfl ?_
  refine l_arg (k := 1) (q := 382) hK dL_law_377 dL_law_378 dL_law_379 dL_law_380 dL_law_381 (by decide) hL (by omega) rfl ?_
  refine l_arg (k := 2) (q := 387) hK dL_law_382 dL_law_383 dL_law_384 dL_law_385 dL_law_386 (by decide) hL (by omega) rfl ?_
  refine l_arg (k := 3) (q := 392) hK dL_law_387 dL_law_388 dL_law_389 dL_law_390 dL_law_391 (by decide) hL (by omega) rfl ?_
  refine l_callC (q := 395) (As := [.int (xs (i + 1)), .int (xs (i + 2)), .int (xs (i + 3))]) (rest := []) hK dL_law_392 rfl (c_X8_set _ _ _ _ _ h8) rfl mv_X8_set rfl rfl (Nat.le_of_ble_eq_true rfl) tw_390 mw_X8_set ⟨⟨rfl, rfl⟩, Nat.le_of_ble_eq_true rfl, Nat.le_of_ble_eq_true rfl⟩ ?_
  refine l_ldM (q := 396) hK dL_law_395 rfl ?_
  refine l_arg (k := 1) (q := 401) hK dL_law_396 dL_law_397 dL_law_398 dL_law_399 dL_law_400 (by decide) hL (by omega) rfl ?_
  refine l_arg (k := 2) (q := 406) hK dL_law_401 dL_law_402 dL_law_403 dL_law_404 dL_law_405 (by decide) hL (by omega) rfl ?_
  refine l_arg (k := 3) (q := 411) hK dL_law_406 dL_law_407 dL_law_408 dL_law_409 dL_law_410 (by decide) hL (by omega) rfl ?_
  refine l_callM (q := 414) (As := [.int (xs (i + 1)), .int (xs (i + 2)), .int (xs (i + 3))]) (rest := [.int r]) hK dL_law_411 rfl (c_X9_set _ _ _ _ _ h9) rfl mv_X9_set rfl rfl (Nat.le_of_ble_eq_true rfl) tw_970 mw_X9_set ⟨⟨rfl, rfl⟩, Nat.le_of_ble_eq_true rfl, Nat.le_of_ble_eq_true rfl⟩ ?_
  exact l_eq hK dL_law_414 (by decide) (kk σ1 τ1 (R1.mono (by omega)))
theorem k_5 {GC GM : Geo} {K : KT} {l0 : Launch} {b bS L i S : Nat} {xs : Nat → Int32} {σ τ : Store} (hK : lOk GC GM K l0 b bS L xs) (hL : L ≤ 384) (hi : i + 5 < L) (hS : S ≤ 2000000) (R : Rel S σ τ) (kk : ∀ σ1 τ1, Rel (S + 3600) σ1 τ1 → lV GC GM K b σ1 τ1 1546 (lL GC GM bS i) []) : lV GC GM K b σ τ 419 (lL GC GM bS i) [] := by
  obtain ⟨r, σ1, τ1, h8, h9, R1⟩ := o_traveller R 
  refine l_ldC (q := 420) hK dL_law_419 rfl ?_
  refine l_callC (q := 423) (As := []) (rest := []) hK dL_law_420 rfl (c_X8_traveller  _ _ h8) rfl mv_X8_traveller rfl rfl (Nat.le_of_ble_eq_true rfl) tw_394 mw_X8_traveller ⟨⟨rfl, rfl⟩, Nat.le_of_ble_eq_true rfl, Nat.le_of_ble_eq_true rfl⟩ ?_
  refine l_ldM (q := 424) hK dL_law_423 rfl ?_
  refine l_callM (q := 427) (As := []) (rest := [.int r]) hK dL_law_424 rfl (c_X9_traveller  _ _ h9) rfl mv_X9_traveller rfl rfl (Nat.le_of_ble_eq_true rfl) tw_974 mw_X9_traveller ⟨⟨rfl, rfl⟩, Nat.le_of_ble_eq_true rfl, Nat.le_of_ble_eq_true rfl⟩ ?_
  exact l_eq hK dL_law_427 (by decide) (kk σ1 τ1 (R1.mono (by omega)))
theorem k_6 {GC GM : Geo} {K : KT} {l0 : Launch} {b bS L i S : Nat} {xs : Nat → Int32} {σ τ : Store} (hK : lOk GC GM K l0 b bS L xs) (hL : L ≤ 384) (hi : i + 5 < L) (hS : S ≤ 2000000) (R : Rel S σ τ) (kk : ∀ σ1 τ1, Rel (S + 3600) σ1 τ1 → lV GC GM K b σ1 τ1 1546 (lL GC GM bS i) []) : lV GC GM K b σ τ 432 (lL GC GM bS i) [] := by
  obtain ⟨r, h8, h9⟩ := o_travels R (xs (i + 1)) (xs (i + 2))
  refine l_ldC (q := 433) hK dL_law_432 rfl ?_
  refine l_arg (k := 1) (q := 438) hK dL_law_433 dL_law_434 dL_law_435 dL_law_436 dL_law_437 (by decide) hL (by omega) rfl ?_
  refine l_arg (k := 2) (q := 443) hK dL_law_438 dL_law_439 dL_law_440 dL_law_441 dL_law_442 (by decide) hL (by omega) rfl ?_
  refine l_callC (q := 446) (As := [.int (xs (i + 1)), .int (xs (i + 2))]) (rest := []) hK dL_law_443 rfl (c_X8_travels _ _ _ _ h8) rfl mv_X8_travels rfl rfl (Nat.le_of_ble_eq_true rfl) tw_402 mw_X8_travels ⟨⟨rfl, rfl⟩, Nat.le_of_ble_eq_true rfl, Nat.le_of_ble_eq_true rfl⟩ ?_
  refine l_ldM (q := 447) hK dL_law_446 rfl ?_
  refine l_arg (k := 1) (q := 452) hK dL_law_447 dL_law_448 dL_law_449 dL_law_450 dL_law_451 (by decide) hL (by omega) rfl ?_
  refine l_arg (k := 2) (q := 457) hK dL_law_452 dL_law_453 dL_law_454 dL_law_455 dL_law_456 (by decide) hL (by omega) rfl ?_
  refine l_callM (q := 460) (As := [.int (xs (i + 1)), .int (xs (i + 2))]) (rest := [.int r]) hK dL_law_457 rfl (c_X9_travels _ _ _ _ h9) rfl mv_X9_travels rfl rfl (Nat.le_of_ble_eq_true rfl) tw_978 mw_X9_travels ⟨⟨rfl, rfl⟩, Nat.le_of_ble_eq_true rfl, Nat.le_of_ble_eq_true rfl⟩ ?_
  exact l_eq hK dL_law_460 (by decide) (kk σ τ (R.mono (by omega)))
theorem k_7 {GC GM : Geo} {K : KT} {l0 : Launch} {b bS L i S : Nat} {xs : Nat → Int32} {σ τ : Store} (hK : lOk GC GM K l0 b bS L xs) (hL : L ≤ 384) (hi : i + 5 < L) (hS : S ≤ 2000000) (R : Rel S σ τ) (kk : ∀ σ1 τ1, Rel (S + 3600) σ1 τ1 → lV GC GM K b σ1 τ1 1546 (lL GC GM bS i) []) : lV GC GM K b σ τ 465 (lL GC GM bS i) [] := by
  obtain ⟨r, σ1, τ1, h8, h9, R1⟩ := o_gives R (xs (i + 1)) (xs (i + 2))
  refine l_ldC (q := 466) hK dL_law_465 rfl ?_
  refine l_arg (k := 1) (q := 471) hK dL_law_466 dL_law_467 dL_law_468 dL_law_469 dL_law_470 (by decide) hL (by omega) rfl ?_
  refine l_arg (k := 2) (q := 476) hK dL_law_471 dL_law_472 dL_law_473 dL_law_474 dL_law_475 (by decide) hL (by omega) rfl ?_
  refine l_callC (q := 479) (As := [.int (xs (i + 1)), .int (xs (i + 2))]) (rest := []) hK dL_law_476 rfl (c_X8_gives _ _ _ _ h8) rfl mv_X8_gives rfl rfl (Nat.le_of_ble_eq_true rfl) tw_410 mw_X8_gives ⟨⟨rfl, rfl⟩, Nat.le_of_ble_eq_true rfl, Nat.le_of_ble_eq_true rfl⟩ ?_
  refine l_ldM (q := 480) hK dL_law_479 rfl ?_
  refine l_arg (k := 1) (q := 485) hK dL_law_480 dL_law_481 dL_law_482 dL_law_483 dL_law_484 (by decide) hL (by omega) rfl ?_
  refine l_arg (k := 2) (q := 490) hK dL_law_485 dL_law_486 dL_law_487 dL_law_488 dL_law_489 (by decide) hL (by omega) rfl ?_
  refine l_callM (q := 493) (As := [.int (xs (i + 1)), .int (xs (i + 2))]) (rest := [.int r]) hK dL_law_490 rfl (c_X9_gives _ _ _ _ h9) rfl mv_X9_gives rfl rfl (Nat.le_of_ble_eq_true rfl) tw_990 mw_X9_gives ⟨⟨rfl, rfl⟩, Nat.le_of_ble_eq_true rfl, Nat.le_of_ble_eq_true rfl⟩ ?_
  exact l_eq hK dL_law_493 (by decide) (kk σ1 τ1 (R1.mono (by omega)))
theorem k_8 {GC GM : Geo} {K : KT} {l0 : Launch} {b bS L i S : Nat} {xs : Nat → Int32} {σ τ : Store} (hK : lOk GC GM K l0 b bS L xs) (hL : L ≤ 384) (hi : i + 5 < L) (hS : S ≤ 2000000) (R : Rel S σ τ) (kk : ∀ σ1 τ1, Rel (S + 3600) σ1 τ1 → lV GC GM K b σ1 τ1 1546 (lL GC GM bS i) []) : lV GC GM K b σ τ 498 (lL GC GM bS i) [] := by
  obtain ⟨r, σ1, τ1, h8, h9, R1⟩ := o_rule R (xs (i + 1)) (xs (i + 2))
  refine l_ldC (q := 499) hK dL_law_498 rfl ?_
  refine l_arg (k := 1) (q := 504) hK dL_law_499 dL_law_500 dL_law_501 dL_law_502 dL_law_503 (by decide) hL (by omega) rfl ?_
  refine l_arg (k := 2) (q := 509) hK dL_law_504 dL_law_505 dL_law_506 dL_law_507 dL_law_508 (by decide) hL (by omega) rfl ?_
  refine l_callC (q := 512) (As := [.int (xs (i + 1)), .int (xs (i + 2))]) (rest := []) hK dL_law_509 rfl (c_X8_rule _ _ _ _ h8) rfl mv_X8_rule rfl rfl (Nat.le_of_ble_eq_true rfl) tw_422 mw_X8_rule ⟨⟨rfl, rfl⟩, Nat.le_of_ble_eq_true rfl, Nat.le_of_ble_eq_true rfl⟩ ?_
  refine l_ldM (q := 513) hK dL_law_512 rfl ?_
  refine l_arg (k := 1) (q := 518) hK dL_law_513 dL_law_514 dL_law_515 dL_law_516 dL_law_517 (by decide) hL (by omega) rfl ?_
  refine l_arg (k := 2) (q := 523) hK dL_law_518 dL_law_519 dL_law_520 dL_law_521 dL_law_522 (by decide) hL (by omega) rfl ?_
  refine l_callM (q := 526) (As := [.int (xs (i + 1)), .int (xs (i + 2))]) (rest := [.int r]) hK dL_law_523 rfl (c_X9_rule _ _ _ _ h9) rfl mv_X9_rule rfl rfl (Nat.le_of_ble_eq_true rfl) tw_998 mw_X9_rule ⟨⟨rfl, rfl⟩, Nat.le_of_ble_eq_true rfl, Nat.le_of_ble_eq_true rfl⟩ ?_
  exact l_eq hK dL_law_526 (by decide) (kk σ1 τ1 (R1.mono (by omega)))
theorem k_9 {GC GM : Geo} {K : KT} {l0 : Launch} {b bS L i S : Nat} {xs : Nat → Int32} {σ τ : Store} (hK : lOk GC GM K l0 b bS L xs) (hL : L ≤ 384) (hi : i + 5 < L) (hS : S ≤ 2000000) (R : Rel S σ τ) (kk : ∀ σ1 τ1, Rel (S + 3600) σ1 τ1 → lV GC GM K b σ1 τ1 1546 (lL GC GM bS i) []) : lV GC GM K b σ τ 531 (lL GC GM bS i) [] := by
  obtain ⟨r, σ1, τ1, h8, h9, R1⟩ := o_deal R (xs (i + 1))
  refine l_ldC (q := 532) hK dL_law_531 rfl ?_
  refine l_arg (k := 1) (q := 537) hK dL_law_532 dL_law_533 dL_law_534 dL_law_535 dL_law_536 (by decide) hL (by omega) rfl ?_
  refine l_callC (q := 540) (As := [.int (xs (i + 1))]) (rest := []) hK dL_law_537 rfl (c_X8_deal _ _ _ h8) rfl mv_X8_deal rfl rfl (Nat.le_of_ble_eq_true rfl) tw_426 mw_X8_deal ⟨⟨rfl, rfl⟩, Nat.le_of_ble_eq_true rfl, Nat.le_of_ble_eq_true rfl⟩ ?_
  refine l_ldM (q := 541) hK dL_law_540 rfl ?_
  refine l_arg (k := 1) (q := 546) hK dL_law_541 dL_law_542 dL_law_543 dL_law_544 dL_law_545 (by decide) hL (by omega) rfl ?_
  refine l_callM (q := 549) (As := [.int (xs (i + 1))]) (rest := [.int r]) hK dL_law_546 rfl (c_X9_deal _ _ _ h9) rfl mv_X9_deal rfl rfl (Nat.le_of_ble_eq_true rfl) tw_1002 mw_X9_deal ⟨⟨rfl, rfl⟩, Nat.le_of_ble_eq_true rfl, Nat.le_of_ble_eq_true rfl⟩ ?_
  exact l_eq hK dL_law_549 (by decide) (kk σ1 τ1 (R1.mono (by omega)))
theorem k_10 {GC GM : Geo} {K : KT} {l0 : Launch} {b bS L i S : Nat} {xs : Nat → Int32} {σ τ : Store} (hK : lOk GC GM K l0 b bS L xs) (hL : L ≤ 384) (hi : i + 5 < L) (hS : S ≤ 2000000) (R : Rel S σ τ) (kk : ∀ σ1 τ1, Rel (S + 3600) σ1 τ1 → lV GC GM K b σ1 τ1 1546 (lL GC GM bS i) []) : lV GC GM K b σ τ 554 (lL GC GM bS i) [] := by
  obtain ⟨r, σ1, τ1, h8, h9, R1⟩ := o_seed R (xs (i + 1))
  refine l_ldC (q := 555) hK dL_law_554 rfl ?_
  refine l_arg (k := 1) (q := 560) hK dL_law_555 dL_law_556 dL_law_557 dL_law_558 dL_law_559 (by decide) hL (by omega) rfl ?_
  refine l_callC (q := 563) (As := [.int (xs (i + 1))]) (rest := []) hK dL_law_560 rfl (c_X8_seed _ _ _ h8) rfl mv_X8_seed rfl rfl (Nat.le_of_ble_eq_true rfl) tw_440 mw_X8_seed ⟨⟨rfl, rfl⟩, Nat.le_of_ble_eq_true rfl, Nat.le_of_ble_eq_true rfl⟩ ?_
  refine l_ldM (q := 564) hK dL_law_563 rfl ?_
  refine l_arg (k := 1) (q := 569) hK dL_law_564 dL_law_565 dL_law_566 dL_law_567 dL_law_568 (by decide) hL (by omega) rfl ?_
  refine l_callM (q := 572) (As := [.int (xs (i + 1))]) (rest := [.int r]) hK dL_law_569 rfl (c_X9_seed _ _ _ h9) rfl mv_X9_seed rfl rfl (Nat.le_of_ble_eq_true rfl) tw_1011 mw_X9_seed ⟨⟨rfl, rfl⟩, Nat.le_of_ble_eq_true rfl, Nat.le_of_ble_eq_true rfl⟩ ?_
  exact l_eq hK dL_law_572 (by decide) (kk σ1 τ1 (R1.mono (by omega)))
theorem k_11 {GC GM : Geo} {K : KT} {l0 : Launch} {b bS L i S : Nat} {xs : Nat → Int32} {σ τ : Store} (hK : lOk GC GM K l0 b bS L xs) (hL : L ≤ 384) (hi : i + 5 < L) (hS : S ≤ 2000000) (R : Rel S σ τ) (kk : ∀ σ1 τ1, Rel (S + 3600) σ1 τ1 → lV GC GM K b σ1 τ1 1546 (lL GC GM bS i) []) : lV GC GM K b σ τ 577 (lL GC GM bS i) [] := by
  obtain ⟨r, σ1, τ1, h8, h9, R1⟩ := o_cross R (xs (i + 1)) (xs (i + 2))
  refine l_ldC (q := 578) hK dL_law_577 rfl ?_
  refine l_arg (k := 1) (q := 583) hK dL_law_578 dL_law_579 dL_law_580 dL_law_581 dL_law_582 (by decide) hL (by omega) rfl ?_
  refine l_arg (k := 2) (q := 588) hK dL_law_583 dL_law_584 dL_law_585 dL_law_586 dL_law_587 (by decide) hL (by omega) rfl ?_
  refine l_callC (q := 591) (As := [.int (xs (i + 1)), .int (xs (i + 2))]) (rest := []) hK dL_law_588 rfl (c_X8_cross _ _ _ _ h8) rfl mv_X8_cross rfl rfl (Nat.le_of_ble_eq_true rfl) tw_444 mw_X8_cross ⟨⟨rfl, rfl⟩, Nat.le_of_ble_eq_true rfl, Nat.le_of_ble_eq_true rfl⟩ ?_
  refine l_ldM (q := 592) hK dL_law_591 rfl ?_
  refine l_arg (k := 1) (q := 597) hK dL_law_592 dL_law_593 dL_law_594 dL_law_595 dL_law_596 (by decide) hL (by omega) rfl ?_
  refine l_arg (k := 2) (q := 602) hK dL_law_597 dL_law_598 dL_law_599 dL_law_600 dL_law_601 (by decide) hL (by omega) rfl ?_
  refine l_callM (q := 605) (As := [.int (xs (i + 1)), .int (xs (i + 2))]) (rest := [.int r]) hK dL_law_602 rfl (c_X9_cross _ _ _ _ h9) rfl mv_X9_cross rfl rfl (Nat.le_of_ble_eq_true rfl) tw_1015 mw_X9_cross ⟨⟨rfl, rfl⟩, Nat.le_of_ble_eq_true rfl, Nat.le_of_ble_eq_true rfl⟩ ?_
  exact l_eq hK dL_law_605 (by decide) (kk σ1 τ1 (R1.mono (by omega)))
theorem k_12 {GC GM : Geo} {K : KT} {l0 : Launch} {b bS L i S : Nat} {xs : Nat → Int32} {σ τ : Store} (hK : lOk GC GM K l0 b bS L xs) (hL : L ≤ 384) (hi : i + 5 < L) (hS : S ≤ 2000000) (R : Rel S σ τ) (kk : ∀ σ1 τ1, Rel (S + 3600) σ1 τ1 → lV GC GM K b σ1 τ1 1546 (lL GC GM bS i) []) : lV GC GM K b σ τ 610 (lL GC GM bS i) [] := by
  obtain ⟨r, h8, h9⟩ := o_man R (xs (i + 1))
  refine l_ldC (q := 611) hK dL_law_610 rfl ?_
  refine l_arg (k := 1) (q := 616) hK dL_law_611 dL_law_612 dL_law_613 dL_law_614 dL_law_615 (by decide) hL (by omega) rfl ?_
  refine l_callC (q := 619) (As := [.int (xs (i + 1))]) (rest := []) hK dL_law_616 rfl (c_X8_man _ _ _ h8) rfl mv_X8_man rfl rfl (Nat.le_of_ble_eq_true rfl) tw_463 mw_X8_man ⟨⟨rfl, rfl⟩, Nat.le_of_ble_eq_true rfl, Nat.le_of_ble_eq_true rfl⟩ ?_
  refine l_ldM (q := 620) hK dL_law_619 rfl ?_
  refine l_arg (k := 1) (q := 625) hK dL_law_620 dL_law_621 dL_law_622 dL_law_623 dL_law_624 (by decide) hL (by omega) rfl ?_
  refine l_callM (q := 628) (As := [.int (xs (i + 1))]) (rest := [.int r]) hK dL_law_625 rfl (c_X9_man _ _ _ h9) rfl mv_X9_man rfl rfl (Nat.le_of_ble_eq_true rfl) tw_1034 mw_X9_man ⟨⟨rfl, rfl⟩, Nat.le_of_ble_eq_true rfl, Nat.le_of_ble_eq_true rfl⟩ ?_
  exact l_eq hK dL_law_628 (by decide) (kk σ τ (R.mono (by omega)))
theorem k_13 {GC GM : Geo} {K : KT} {l0 : Launch} {b bS L i S : Nat} {xs : Nat → Int32} {σ τ : Store} (hK : lOk GC GM K l0 b bS L xs) (hL : L ≤ 384) (hi : i + 5 < L) (hS : S ≤ 2000000) (R : Rel S σ τ) (kk : ∀ σ1 τ1, Rel (S + 3600) σ1 τ1 → lV GC GM K b σ1 τ1 1546 (lL GC GM bS i) []) : lV GC GM K b σ τ 633 (lL GC GM bS i) [] := by
  obtain ⟨r, σ1, τ1, h8, h9, R1⟩ := o_forget R 
  refine l_ldC (q := 634) hK dL_law_633 rfl ?_
  refine l_callC (q := 637) (As := []) (rest := []) hK dL_law_634 rfl (c_X8_forget  _ _ h8) rfl mv_X8_forget rfl rfl (Nat.le_of_ble_eq_true rfl) tw_468 mw_X8_forget ⟨⟨rfl, rfl⟩, Nat.le_of_ble_eq_true rfl, Nat.le_of_ble_eq_true rfl⟩ ?_
  refine l_ldM (q := 638) hK dL_law_637 rfl ?_
  refine l_callM (q := 641) (As := []) (rest := [.int r]) hK dL_law_638 rfl (c_X9_forget  _ _ h9) rfl mv_X9_forget rfl rfl (Nat.le_of_ble_eq_true rfl) tw_1038 mw_X9_forget ⟨⟨rfl, rfl⟩, Nat.le_of_ble_eq_true rfl, Nat.le_of_ble_eq_true rfl⟩ ?_
  exact l_eq hK dL_law_641 (by decide) (kk σ1 τ1 (R1.mono (by omega)))
theorem k_14 {GC GM : Geo} {K : KT} {l0 : Launch} {b bS L i S : Nat} {xs : Nat → Int32} {σ τ : Store} (hK : lOk GC GM K l0 b bS L xs) (hL : L ≤ 384) (hi : i + 5 < L) (hS : S ≤ 2000000) (R : Rel S σ τ) (kk : ∀ σ1 τ1, Rel (S + 3600) σ1 τ1 → lV GC GM K b σ1 τ1 1546 (lL GC GM bS i) []) : lV GC GM K b σ τ 646 (lL GC GM bS i) [] := by
  obtain ⟨r, σ1, τ1, h8, h9, R1⟩ := o_days R (xs (i + 1))
  refine l_ldC (q := 647) hK dL_law_646 rfl ?_
  refine l_arg (k := 1) (q := 652) hK dL_law_647 dL_law_648 dL_law_649 dL_law_650 dL_law_651 (by decide) hL (by omega) rfl ?_
  refine l_callC (q := 655) (As := [.int (xs (i + 1))]) (rest := []) hK dL_law_652 rfl (c_X8_days _ _ _ h8) rfl mv_X8_days rfl rfl (Nat.le_of_ble_eq_true rfl) tw_473 mw_X8_days ⟨⟨rfl, rfl⟩, Nat.le_of_ble_eq_true rfl, Nat.le_of_ble_eq_true rfl⟩ ?_
  refine l_ldM (q := 656) hK dL_law_655 rfl ?_
  refine l_arg (k := 1) (q := 661) hK dL_law_656 dL_law_657 dL_law_658 dL_law_659 dL_law_660 (by decide) hL (by omega) rfl ?_
  refine l_callM (q := 664) (As := [.int (xs (i + 1))]) (rest := [.int r]) hK dL_law_661 rfl (c_X9_days _ _ _ h9) rfl mv_X9_days rfl rfl (Nat.le_of_ble_eq_true rfl) tw_1042 mw_X9_days ⟨⟨rfl, rfl⟩, Nat.le_of_ble_eq_true rfl, Nat.le_of_ble_eq_true rfl⟩ ?_
  exact l_eq hK dL_law_664 (by decide) (kk σ1 τ1 (R1.mono (by omega)))
theorem k_15 {GC GM : Geo} {K : KT} {l0 : Launch} {b bS L i S : Nat} {xs : Nat → Int32} {σ τ : Store} (hK : lOk GC GM K l0 b bS L xs) (hL : L ≤ 384) (hi : i + 5 < L) (hS : S ≤ 2000000) (R : Rel S σ τ) (kk : ∀ σ1 τ1, Rel (S + 3600) σ1 τ1 → lV GC GM K b σ1 τ1 1546 (lL GC GM bS i) []) : lV GC GM K b σ τ 669 (lL GC GM bS i) [] := by
  obtain ⟨r, h8, h9⟩ := o_says R (xs (i + 1)) (xs (i + 2))
  refine l_ldC (q := 670) hK dL_law_669 rfl ?_
  refine l_arg (k := 1) (q := 675) hK dL_law_670 dL_law_671 dL_law_672 dL_law_673 dL_law_674 (by decide) hL (by omega) rfl ?_
  refine l_arg (k := 2) (q := 680) hK dL_law_675 dL_law_676 dL_law_677 dL_law_678 dL_law_679 (by decide) hL (by omega) rfl ?_
  refine l_callC (q := 683) (As := [.int (xs (i + 1)), .int (xs (i + 2))]) (rest := []) hK dL_law_680 rfl (c_X8_says _ _ _ _ h8) rfl mv_X8_says rfl rfl (Nat.le_of_ble_eq_true rfl) tw_486 mw_X8_says ⟨⟨rfl, rfl⟩, Nat.le_of_ble_eq_true rfl, Nat.le_of_ble_eq_true rfl⟩ ?_
  refine l_ldM (q := 684) hK dL_law_683 rfl ?_
  refine l_arg (k := 1) (q := 689) hK dL_law_684 dL_law_685 dL_law_686 dL_law_687 dL_law_688 (by decide) hL (by omega) rfl ?_
  refine l_arg (k := 2) (q := 694) hK dL_law_689 dL_law_690 dL_law_691 dL_law_692 dL_law_693 (by decide) hL (by omega) rfl ?_
  refine l_callM (q := 697) (As := [.int (xs (i + 1)), .int (xs (i + 2))]) (rest := [.int r]) hK dL_law_694 rfl (c_X9_says _ _ _ _ h9) rfl mv_X9_says rfl rfl (Nat.le_of_ble_eq_true rfl) tw_1054 mw_X9_says ⟨⟨rfl, rfl⟩, Nat.le_of_ble_eq_true rfl, Nat.le_of_ble_eq_true rfl⟩ ?_
  exact l_eq hK dL_law_697 (by decide) (kk σ τ (R.mono (by omega)))
theorem k_16 {GC GM : Geo} {K : KT} {l0 : Launch} {b bS L i S : Nat} {xs : Nat → Int32} {σ τ : Store} (hK : lOk GC GM K l0 b bS L xs) (hL : L ≤ 384) (hi : i + 5 < L) (hS : S ≤ 2000000) (R : Rel S σ τ) (kk : ∀ σ1 τ1, Rel (S + 3600) σ1 τ1 → lV GC GM K b σ1 τ1 1546 (lL GC GM bS i) []) : lV GC GM K b σ τ 702 (lL GC GM bS i) [] := by
  obtain ⟨r, σ1, τ1, h8, h9, R1⟩ := o_cheapest R (xs (i + 1)) (xs (i + 2)) (xs (i + 3))
  refine l_ldC (q := 703) hK dL_law_702 rfl ?_
  refine l_arg (k := 1) (q := 708) hK dL_law_703 dL_law_704 dL_law_705 dL_law_706 dL_law_707 (by decide) hL (by omega) rfl ?_
  refine l_arg (k := 2) (q := 713) hK dL_law_708 dL_law_709 dL_law_710 dL_law_711 dL_law_712 (by decide) hL (by omega) rfl ?_
  refine l_arg (k := 3) (q := 718) hK dL_law_713 dL_law_714 dL_law_715 dL_law_716 dL_law_717 (by decide) hL (by omega) rfl ?_
  refine l_callC (q := 721) (As := [.int (xs (i + 1)), .int (xs (i + 2)), .int (xs (i + 3))]) (rest := []) hK dL_law_718 rfl (c_X8_cheapest _ _ _ _ _ h8) rfl mv_X8_cheapest rfl rfl (Nat.le_of_ble_eq_true rfl) tw_501 mw_X8_cheapest ⟨⟨rfl, rfl⟩, Nat.le_of_ble_eq_true rfl, Nat.le_of_ble_eq_true rfl⟩ ?_
  refine l_ldM (q := 722) hK dL_law_721 rfl ?_
  refine l_arg (k := 1) (q := 727) hK dL_law_722 dL_law_723 dL_law_724 dL_law_725 dL_law_726 (by decide) hL (by omega) rfl ?_
  refine l_arg (k := 2) (q := 732) hK dL_law_727 dL_law_728 dL_law_729 dL_law_730 dL_law_731 (by decide) hL (by omega) rfl ?_
  refine l_arg (k := 3) (q := 737) hK dL_law_732 dL_law_733 dL_law_734 dL_law_735 dL_law_736 (by decide) hL (by omega) rfl ?_
  refine l_callM (q := 740) (As := [.int (xs (i + 1)), .int (xs (i + 2)), .int (xs (i + 3))]) (rest := [.int r]) hK dL_law_737 rfl (c_X9_cheapest _ _ _ _ _ h9) rfl mv_X9_cheapest rfl rfl (Nat.le_of_ble_eq_true rfl) tw_1069 mw_X9_cheapest ⟨⟨rfl, rfl⟩, Nat.le_of_ble_eq_true rfl, Nat.le_of_ble_eq_true rfl⟩ ?_
  exact l_eq hK dL_law_740 (by decide) (kk σ1 τ1 (R1.mono (by omega)))
theorem k_17 {GC GM : Geo} {K : KT} {l0 : Launch} {b bS L i S : Nat} {xs : Nat → Int32} {σ τ : Store} (hK : lOk GC GM K l0 b bS L xs) (hL : L ≤ 384) (hi : i + 5 < L) (hS : S ≤ 2000000) (R : Rel S σ τ) (kk : ∀ σ1 τ1, Rel (S + 3600) σ1 τ1 → lV GC GM K b σ1 τ1 1546 (lL GC GM bS i) []) : lV GC GM K b σ τ 745 (lL GC GM bS i) [] := by
  obtain ⟨r, h8, h9⟩ := o_shortest R (xs (i + 1)) (xs (i + 2))
  refine l_ldC (q := 746) hK dL_law_745 rfl ?_
  refine l_arg (k := 1) (q := 751) hK dL_law_746 dL_law_747 dL_law_748 dL_law_749 dL_law_750 (by decide) hL (by omega) rfl ?_
  refine l_arg (k := 2) (q := 756) hK dL_law_751 dL_law_752 dL_law_753 dL_law_754 dL_law_755 (by decide) hL (by omega) rfl ?_
  refine l_callC (q := 759) (As := [.int (xs (i + 1)), .int (xs (i + 2))]) (rest := []) hK dL_law_756 rfl (c_X8_shortest _ _ _ _ h8) rfl mv_X8_shortest rfl rfl (Nat.le_of_ble_eq_true rfl) tw_524 mw_X8_shortest ⟨⟨rfl, rfl⟩, Nat.le_of_ble_eq_true rfl, Nat.le_of_ble_eq_true rfl⟩ ?_
  refine l_ldM (q := 760) hK dL_law_759 rfl ?_
  refine l_arg (k := 1) (q := 765) hK dL_law_760 dL_law_761 dL_law_762 dL_law_763 dL_law_764 (by decide) hL (by omega) rfl ?_
  refine l_arg (k := 2) (q := 770) hK dL_law_765 dL_law_766 dL_law_767 dL_law_768 dL_law_769 (by decide) hL (by omega) rfl ?_
  refine l_callM (q := 773) (As := [.int (xs (i + 1)), .int (xs (i + 2))]) (rest := [.int r]) hK dL_law_770 rfl (c_X9_shortest _ _ _ _ h9) rfl mv_X9_shortest rfl rfl (Nat.le_of_ble_eq_true rfl) tw_1078 mw_X9_shortest ⟨⟨rfl, rfl⟩, Nat.le_of_ble_eq_true rfl, Nat.le_of_ble_eq_true rfl⟩ ?_
  exact l_eq hK dL_law_773 (by decide) (kk σ τ (R.mono (by omega)))
theorem k_18 {GC GM : Geo} {K : KT} {l0 : Launch} {b bS L i S : Nat} {xs : Nat → Int32} {σ τ : Store} (hK : lOk GC GM K l0 b bS L xs) (hL : L ≤ 384) (hi : i + 5 < L) (hS : S ≤ 2000000) (R : Rel S σ τ) (kk : ∀ σ1 τ1, Rel (S + 3600) σ1 τ1 → lV GC GM K b σ1 τ1 1546 (lL GC GM bS i) []) : lV GC GM K b σ τ 778 (lL GC GM bS i) [] := by
  obtain ⟨r, h8, h9⟩ := o_nearest R (xs (i + 1)) (xs (i + 2)) (xs (i + 3))
  refine l_ldC (q := 779) hK dL_law_778 rfl ?_
  refine l_arg (k := 1) (q := 784) hK dL_law_779 dL_law_780 dL_law_781 dL_law_782 dL_law_783 (by decide) hL (by omega) rfl ?_
  refine l_arg (k := 2) (q := 789) hK dL_law_784 dL_law_785 dL_law_786 dL_law_787 dL_law_788 (by decide) hL (by omega) rfl ?_
  refine l_arg (k := 3) (q := 794) hK dL_law_789 dL_law_790 dL_law_791 dL_law_792 dL_law_793 (by decide) hL (by omega) rfl ?_
  refine l_callC (q := 797) (As := [.int (xs (i + 1)), .int (xs (i + 2)), .int (xs (i + 3))]) (rest := []) hK dL_law_794 rfl (c_X8_nearest _ _ _ _ _ h8) rfl mv_X8_nearest rfl rfl (Nat.le_of_ble_eq_true rfl) tw_532 mw_X8_nearest ⟨⟨rfl, rfl⟩, Nat.le_of_ble_eq_true rfl, Nat.le_of_ble_eq_true rfl⟩ ?_
  refine l_ldM (q := 798) hK dL_law_797 rfl ?_
  refine l_arg (k := 1) (q := 803) hK dL_law_798 dL_law_799 dL_law_800 dL_law_801 dL_law_802 (by decide) hL (by omega) rfl ?_
  refine l_arg (k := 2) (q := 808) hK dL_law_803 dL_law_804 dL_law_805 dL_law_806 dL_law_807 (by decide) hL (by omega) rfl ?_
  refine l_arg (k := 3) (q := 813) hK dL_law_808 dL_law_809 dL_law_810 dL_law_811 dL_law_812 (by decide) hL (by omega) rfl ?_
  refine l_callM (q := 816) (As := [.int (xs (i + 1)), .int (xs (i + 2)), .int (xs (i + 3))]) (rest := [.int r]) hK dL_law_813 rfl (c_X9_nearest _ _ _ _ _ h9) rfl mv_X9_nearest rfl rfl (Nat.le_of_ble_eq_true rfl) tw_1086 mw_X9_nearest ⟨⟨rfl, rfl⟩, Nat.le_of_ble_eq_true rfl, Nat.le_of_ble_eq_true rfl⟩ ?_
  exact l_eq hK dL_law_816 (by decide) (kk σ τ (R.mono (by omega)))
theorem k_19 {GC GM : Geo} {K : KT} {l0 : Launch} {b bS L i S : Nat} {xs : Nat → Int32} {σ τ : Store} (hK : lOk GC GM K l0 b bS L xs) (hL : L ≤ 384) (hi : i + 5 < L) (hS : S ≤ 2000000) (R : Rel S σ τ) (kk : ∀ σ1 τ1, Rel (S + 3600) σ1 τ1 → lV GC GM K b σ1 τ1 1546 (lL GC GM bS i) []) : lV GC GM K b σ τ 821 (lL GC GM bS i) [] := by
  obtain ⟨r, h8, h9⟩ := o_treaty R (xs (i + 1))
  refine l_ldC (q := 822) hK dL_law_821 rfl ?_
  refine l_arg (k := 1) (q := 827) hK dL_law_822 dL_law_823 dL_law_824 dL_law_825 dL_law_826 (by decide) hL (by omega) rfl ?_
  refine l_callC (q := 830) (As := [.int (xs (i + 1))]) (rest := []) hK dL_law_827 rfl (c_X8_treaty _ _ _ h8) rfl mv_X8_treaty rfl rfl (Nat.le_of_ble_eq_true rfl) tw_542 mw_X8_treaty ⟨⟨rfl, rfl⟩, Nat.le_of_ble_eq_true rfl, Nat.le_of_ble_eq_true rfl⟩ ?_
  refine l_ldM (q := 831) hK dL_law_830 rfl ?_
  refine l_arg (k := 1) (q := 836) hK dL_law_831 dL_law_832 dL_law_833 dL_law_834 dL_law_835 (by decide) hL (by omega) rfl ?_
  refine l_callM (q := 839) (As := [.int (xs (i + 1))]) (rest := [.int r]) hK dL_law_836 rfl (c_X9_treaty _ _ _ h9) rfl mv_X9_treaty rfl rfl (Nat.le_of_ble_eq_true rfl) tw_1090 mw_X9_treaty ⟨⟨rfl, rfl⟩, Nat.le_of_ble_eq_true rfl, Nat.le_of_ble_eq_true rfl⟩ ?_
  exact l_eq hK dL_law_839 (by decide) (kk σ τ (R.mono (by omega)))
theorem k_20 {GC GM : Geo} {K : KT} {l0 : Launch} {b bS L i S : Nat} {xs : Nat → Int32} {σ τ : Store} (hK : lOk GC GM K l0 b bS L xs) (hL : L ≤ 384) (hi : i + 5 < L) (hS : S ≤ 2000000) (R : Rel S σ τ) (kk : ∀ σ1 τ1, Rel (S + 3600) σ1 τ1 → lV GC GM K b σ1 τ1 1546 (lL GC GM bS i) []) : lV GC GM K b σ τ 844 (lL GC GM bS i) [] := by
  obtain ⟨r, σ1, τ1, h8, h9, R1⟩ := o_behind R (xs (i + 1)) (xs (i + 2)) (xs (i + 3))
  refine l_ldC (q := 845) hK dL_law_844 rfl ?_
  refine l_arg (k := 1) (q := 850) hK dL_law_845 dL_law_846 dL_law_847 dL_law_848 dL_law_849 (by decide) hL (by omega) rfl ?_
  refine l_arg (k := 2) (q := 855) hK dL_law_850 dL_law_851 dL_law_852 dL_law_853 dL_law_854 (by decide) hL (by omega) rfl ?_
  refine l_arg (k := 3) (q := 860) hK dL_law_855 dL_law_856 dL_law_857 dL_law_858 dL_law_859 (by decide) hL (by omega) rfl ?_
  refine l_callC (q := 863) (As := [.int (xs (i + 1)), .int (xs (i + 2)), .int (xs (i + 3))]) (rest := []) hK dL_law_860 rfl (c_X8_behind _ _ _ _ _ h8) rfl mv_X8_behind rfl rfl (Nat.le_of_ble_eq_true rfl) tw_551 mw_X8_behind ⟨⟨rfl, rfl⟩, Nat.le_of_ble_eq_true rfl, Nat.le_of_ble_eq_true rfl⟩ ?_
  refine l_ldM (q := 864) hK dL_law_863 rfl ?_
  refine l_arg (k := 1) (q := 869) hK dL_law_864 dL_law_865 dL_law_866 dL_law_867 dL_law_868 (by decide) hL (by omega) rfl ?_
  refine l_arg (k := 2) (q := 874) hK dL_law_869 dL_law_870 dL_law_871 dL_law_872 dL_law_873 (by decide) hL (by omega) rfl ?_
  refine l_arg (k := 3) (q := 879) hK dL_law_874 dL_law_875 dL_law_876 dL_law_877 dL_law_878 (by decide) hL (by omega) rfl ?_
  refine l_callM (q := 882) (As := [.int (xs (i + 1)), .int (xs (i + 2)), .int (xs (i + 3))]) (rest := [.int r]) hK dL_law_879 rfl (c_X9_behind _ _ _ _ _ h9) rfl mv_X9_behind rfl rfl (Nat.le_of_ble_eq_true rfl) tw_1094 mw_X9_behind ⟨⟨rfl, rfl⟩, Nat.le_of_ble_eq_true rfl, Nat.le_of_ble_eq_true rfl⟩ ?_
  exact l_eq hK dL_law_882 (by decide) (kk σ1 τ1 (R1.mono (by omega)))
theorem k_21 {GC GM : Geo} {K : KT} {l0 : Launch} {b bS L i S : Nat} {xs : Nat → Int32} {σ τ : Store} (hK : lOk GC GM K l0 b bS L xs) (hL : L ≤ 384) (hi : i + 5 < L) (hS : S ≤ 2000000) (R : Rel S σ τ) (kk : ∀ σ1 τ1, Rel (S + 3600) σ1 τ1 → lV GC GM K b σ1 τ1 1546 (lL GC GM bS i) []) : lV GC GM K b σ τ 887 (lL GC GM bS i) [] := by
  obtain ⟨r, σ1, τ1, h8, h9, R1⟩ := o_turnsBy R 
  refine l_ldC (q := 888) hK dL_law_887 rfl ?_
  refine l_callC (q := 891) (As := []) (rest := []) hK dL_law_888 rfl (c_X8_turnsBy  _ _ h8) rfl mv_X8_turnsBy rfl rfl (Nat.le_of_ble_eq_true rfl) tw_571 mw_X8_turnsBy ⟨⟨rfl, rfl⟩, Nat.le_of_ble_eq_true rfl, Nat.le_of_ble_eq_true rfl⟩ ?_
  refine l_ldM (q := 892) hK dL_law_891 rfl ?_
  refine l_callM (q := 895) (As := []) (rest := [.int r]) hK dL_law_892 rfl (c_X9_turnsBy  _ _ h9) rfl mv_X9_turnsBy rfl rfl (Nat.le_of_ble_eq_true rfl) tw_1109 mw_X9_turnsBy ⟨⟨rfl, rfl⟩, Nat.le_of_ble_eq_true rfl, Nat.le_of_ble_eq_true rfl⟩ ?_
  exact l_eq hK dL_law_895 (by decide) (kk σ1 τ1 (R1.mono (by omega)))
theorem k_22 {GC GM : Geo} {K : KT} {l0 : Launch} {b bS L i S : Nat} {xs : Nat → Int32} {σ τ : Store} (hK : lOk GC GM K l0 b bS L xs) (hL : L ≤ 384) (hi : i + 5 < L) (hS : S ≤ 2000000) (R : Rel S σ τ) (kk : ∀ σ1 τ1, Rel (S + 3600) σ1 τ1 → lV GC GM K b σ1 τ1 1546 (lL GC GM bS i) []) : lV GC GM K b σ τ 900 (lL GC GM bS i) [] := by
  obtain ⟨r, σ1, τ1, h8, h9, R1⟩ := o_quota R (by omega) (xs (i + 1)) (xs (i + 2)) (xs (i + 3))
  refine l_ldC (q := 901) hK dL_law_900 rfl ?_
  refine l_arg (k := 1) (q := 906) hK dL_law_901 dL_law_902 dL_law_903 dL_law_904 dL_law_905 (by decide) hL (by omega) rfl ?_
  refine l_arg (k := 2) (q := 911) hK dL_law_906 dL_law_907 dL_law_908 dL_law_909 dL_law_910 (by decide) hL (by omega) rfl ?_
  refine l_arg (k := 3) (q := 916) hK dL_law_911 dL_law_912 dL_law_913 dL_law_914 dL_law_915 (by decide) hL (by omega) rfl ?_
  refine l_callC (q := 919) (As := [.int (xs (i + 1)), .int (xs (i + 2)), .int (xs (i + 3))]) (rest := []) hK dL_law_916 rfl (c_X8_quota _ _ _ _ _ h8) rfl mv_X8_quota rfl rfl (Nat.le_of_ble_eq_true rfl) tw_575 mw_X8_quota ⟨⟨rfl, rfl⟩, Nat.le_of_ble_eq_true rfl, Nat.le_of_ble_eq_true rfl⟩ ?_
  refine l_ldM (q := 920) hK dL_law_919 rfl ?_
  refine l_arg (k := 1) (q := 925) hK dL_law_920 dL_law_921 dL_law_922 dL_law_923 dL_law_924 (by decide) hL (by omega) rfl ?_
  refine l_arg (k := 2) (q := 930) hK dL_law_925 dL_law_926 dL_law_927 dL_law_928 dL_law_929 (by decide) hL (by omega) rfl ?_
  refine l_arg (k := 3) (q := 935) hK dL_law_930 dL_law_931 dL_law_932 dL_law_933 dL_law_934 (by decide) hL (by omega) rfl ?_
  refine l_callM (q := 938) (As := [.int (xs (i + 1)), .int (xs (i + 2)), .int (xs (i + 3))]) (rest := [.int r]) hK dL_law_935 rfl (c_X9_quota _ _ _ _ _ h9) rfl mv_X9_quota rfl rfl (Nat.le_of_ble_eq_true rfl) tw_1113 mw_X9_quota ⟨⟨rfl, rfl⟩, Nat.le_of_ble_eq_true rfl, Nat.le_of_ble_eq_true rfl⟩ ?_
  exact l_eq hK dL_law_938 (by decide) (kk σ1 τ1 (R1.mono (by omega)))
theorem k_23 {GC GM : Geo} {K : KT} {l0 : Launch} {b bS L i S : Nat} {xs : Nat → Int32} {σ τ : Store} (hK : lOk GC GM K l0 b bS L xs) (hL : L ≤ 384) (hi : i + 5 < L) (hS : S ≤ 2000000) (R : Rel S σ τ) (kk : ∀ σ1 τ1, Rel (S + 3600) σ1 τ1 → lV GC GM K b σ1 τ1 1546 (lL GC GM bS i) []) : lV GC GM K b σ τ 943 (lL GC GM bS i) [] := by
  obtain ⟨r, σ1, τ1, h8, h9, R1⟩ := o_bill R (xs (i + 1))
  refine l_ldC (q := 944) hK dL_law_943 rfl ?_
  refine l_arg (k := 1) (q := 949) hK dL_law_944 dL_law_945 dL_law_946 dL_law_947 dL_law_948 (by decide) hL (by omega) rfl ?_
  refine l_callC (q := 952) (As := [.int (xs (i + 1))]) (rest := []) hK dL_law_949 rfl (c_X8_bill _ _ _ h8) rfl mv_X8_bill rfl rfl (Nat.le_of_ble_eq_true rfl) tw_604 mw_X8_bill ⟨⟨rfl, rfl⟩, Nat.le_of_ble_eq_true rfl, Nat.le_of_ble_eq_true rfl⟩ ?_
  refine l_ldM (q := 953) hK dL_law_952 rfl ?_
  refine l_arg (k := 1) (q := 958) hK dL_law_953 dL_law_954 dL_law_955 dL_law_956 dL_law_957 (by decide) hL (by omega) rfl ?_
  refine l_callM (q := 961) (As := [.int (xs (i + 1))]) (rest := [.int r]) hK dL_law_958 rfl (c_X9_bill _ _ _ h9) rfl mv_X9_bill rfl rfl (Nat.le_of_ble_eq_true rfl) tw_1123 mw_X9_bill ⟨⟨rfl, rfl⟩, Nat.le_of_ble_eq_true rfl, Nat.le_of_ble_eq_true rfl⟩ ?_
  exact l_eq hK dL_law_961 (by decide) (kk σ1 τ1 (R1.mono (by omega)))
theorem k_24 {GC GM : Geo} {K : KT} {l0 : Launch} {b bS L i S : Nat} {xs : Nat → Int32} {σ τ : Store} (hK : lOk GC GM K l0 b bS L xs) (hL : L ≤ 384) (hi : i + 5 < L) (hS : S ≤ 2000000) (R : Rel S σ τ) (kk : ∀ σ1 τ1, Rel (S + 3600) σ1 τ1 → lV GC GM K b σ1 τ1 1546 (lL GC GM bS i) []) : lV GC GM K b σ τ 966 (lL GC GM bS i) [] := by
  obtain ⟨r, σ1, τ1, h8, h9, R1⟩ := o_fine R 
  refine l_ldC (q := 967) hK dL_law_966 rfl ?_
  refine l_callC (q := 970) (As := []) (rest := []) hK dL_law_967 rfl (c_X8_fine  _ _ h8) rfl mv_X8_fine rfl rfl (Nat.le_of_ble_eq_true rfl) tw_610 mw_X8_fine ⟨⟨rfl, rfl⟩, Nat.le_of_ble_eq_true rfl, Nat.le_of_ble_eq_true rfl⟩ ?_
  refine l_ldM (q := 971) hK dL_law_970 rfl ?_
  refine l_callM (q := 974) (As := []) (rest := [.int r]) hK dL_law_971 rfl (c_X9_fine  _ _ h9) rfl mv_X9_fine rfl rfl (Nat.le_of_ble_eq_true rfl) tw_1127 mw_X9_fine ⟨⟨rfl, rfl⟩, Nat.le_of_ble_eq_true rfl, Nat.le_of_ble_eq_true rfl⟩ ?_
  exact l_eq hK dL_law_974 (by decide) (kk σ1 τ1 (R1.mono (by omega)))
theorem k_25 {GC GM : Geo} {K : KT} {l0 : Launch} {b bS L i S : Nat} {xs : Nat → Int32} {σ τ : Store} (hK : lOk GC GM K l0 b bS L xs) (hL : L ≤ 384) (hi : i + 5 < L) (hS : S ≤ 2000000) (R : Rel S σ τ) (kk : ∀ σ1 τ1, Rel (S + 3600) σ1 τ1 → lV GC GM K b σ1 τ1 1546 (lL GC GM bS i) []) : lV GC GM K b σ τ 979 (lL GC GM bS i) [] := by
  obtain ⟨r, σ1, τ1, h8, h9, R1⟩ := o_feed R (xs (i + 1)) (xs (i + 2)) (xs (i + 3))
  refine l_ldC (q := 980) hK dL_law_979 rfl ?_
  refine l_arg (k := 1) (q := 985) hK dL_law_980 dL_law_981 dL_law_982 dL_law_983 dL_law_984 (by decide) hL (by omega) rfl ?_
  refine l_arg (k := 2) (q := 990) hK dL_law_985 dL_law_986 dL_law_987 dL_law_988 dL_law_989 (by decide) hL (by omega) rfl ?_
  refine l_arg (k := 3) (q := 995) hK dL_law_990 dL_law_991 dL_law_992 dL_law_993 dL_law_994 (by decide) hL (by omega) rfl ?_
  refine l_callC (q := 998) (As := [.int (xs (i + 1)), .int (xs (i + 2)), .int (xs (i + 3))]) (rest := []) hK dL_law_995 rfl (c_X8_feed _ _ _ _ _ h8) rfl mv_X8_feed rfl rfl (Nat.le_of_ble_eq_true rfl) tw_614 mw_X8_feed ⟨⟨rfl, rfl⟩, Nat.le_of_ble_eq_true rfl, Nat.le_of_ble_eq_true rfl⟩ ?_
  refine l_ldM (q := 999) hK dL_law_998 rfl ?_
  refine l_arg (k := 1) (q := 1004) hK dL_law_999 dL_law_1000 dL_law_1001 dL_law_1002 dL_law_1003 (by decide) hL (by omega) rfl ?_
  refine l_arg (k := 2) (q := 1009) hK dL_law_1004 dL_law_1005 dL_law_1006 dL_law_1007 dL_law_1008 (by decide) hL (by omega) rfl ?_
  refine l_arg (k := 3) (q := 1014) hK dL_law_1009 dL_law_1010 dL_law_1011 dL_law_1012 dL_law_1013 (by decide) hL (by omega) rfl ?_
  refine l_callM (q := 1017) (As := [.int (xs (i + 1)), .int (xs (i + 2)), .int (xs (i + 3))]) (rest := [.int r]) hK dL_law_1014 rfl (c_X9_feed _ _ _ _ _ h9) rfl mv_X9_feed rfl rfl (Nat.le_of_ble_eq_true rfl) tw_1131 mw_X9_feed ⟨⟨rfl, rfl⟩, Nat.le_of_ble_eq_true rfl, Nat.le_of_ble_eq_true rfl⟩ ?_
  exact l_eq hK dL_law_1017 (by decide) (kk σ1 τ1 (R1.mono (by omega)))
theorem k_26 {GC GM : Geo} {K : KT} {l0 : Launch} {b bS L i S : Nat} {xs : Nat → Int32} {σ τ : Store} (hK : lOk GC GM K l0 b bS L xs) (hL : L ≤ 384) (hi : i + 5 < L) (hS : S ≤ 2000000) (R : Rel S σ τ) (kk : ∀ σ1 τ1, Rel (S + 3600) σ1 τ1 → lV GC GM K b σ1 τ1 1546 (lL GC GM bS i) []) : lV GC GM K b σ τ 1022 (lL GC GM bS i) [] := by
  obtain ⟨r, σ1, τ1, h8, h9, R1⟩ := o_trim R (xs (i + 1))
  refine l_ldC (q := 1023) hK dL_law_1022 rfl ?_
  refine l_arg (k := 1) (q := 1028) hK dL_law_1023 dL_law_1024 dL_law_1025 dL_law_1026 dL_law_1027 (by decide) hL (by omega) rfl ?_
  refine l_callC (q := 1031) (As := [.int (xs (i + 1))]) (rest := []) hK dL_law_1028 rfl (c_X8_trim _ _ _ h8) rfl mv_X8_trim rfl rfl (Nat.le_of_ble_eq_true rfl) tw_622 mw_X8_trim ⟨⟨rfl, rfl⟩, Nat.le_of_ble_eq_true rfl, Nat.le_of_ble_eq_true rfl⟩ ?_
  refine l_ldM (q := 1032) hK dL_law_1031 rfl ?_
  refine l_arg (k := 1) (q := 1037) hK dL_law_1032 dL_law_1033 dL_law_1034 dL_law_1035 dL_law_1036 (by decide) hL (by omega) rfl ?_
  refine l_callM (q := 1040) (As := [.int (xs (i + 1))]) (rest := [.int r]) hK dL_law_1037 rfl (c_X9_trim _ _ _ h9) rfl mv_X9_trim rfl rfl (Nat.le_of_ble_eq_true rfl) tw_1139 mw_X9_trim ⟨⟨rfl, rfl⟩, Nat.le_of_ble_eq_true rfl, Nat.le_of_ble_eq_true rfl⟩ ?_
  exact l_eq hK dL_law_1040 (by decide) (kk σ1 τ1 (R1.mono (by omega)))
theorem k_27 {GC GM : Geo} {K : KT} {l0 : Launch} {b bS L i S : Nat} {xs : Nat → Int32} {σ τ : Store} (hK : lOk GC GM K l0 b bS L xs) (hL : L ≤ 384) (hi : i + 5 < L) (hS : S ≤ 2000000) (R : Rel S σ τ) (kk : ∀ σ1 τ1, Rel (S + 3600) σ1 τ1 → lV GC GM K b σ1 τ1 1546 (lL GC GM bS i) []) : lV GC GM K b σ τ 1045 (lL GC GM bS i) [] := by
  obtain ⟨r, σ1, τ1, h8, h9, R1⟩ := o_text R 
  refine l_ldC (q := 1046) hK dL_law_1045 rfl ?_
  refine l_callC (q := 1049) (As := []) (rest := []) hK dL_law_1046 rfl (c_X8_text  _ _ h8) rfl mv_X8_text rfl rfl (Nat.le_of_ble_eq_true rfl) tw_626 mw_X8_text ⟨⟨rfl, rfl⟩, Nat.le_of_ble_eq_true rfl, Nat.le_of_ble_eq_true rfl⟩ ?_
  refine l_ldM (q := 1050) hK dL_law_1049 rfl ?_
  refine l_callM (q := 1053) (As := []) (rest := [.int r]) hK dL_law_1050 rfl (c_X9_text  _ _ h9) rfl mv_X9_text rfl rfl (Nat.le_of_ble_eq_true rfl) tw_1143 mw_X9_text ⟨⟨rfl, rfl⟩, Nat.le_of_ble_eq_true rfl, Nat.le_of_ble_eq_true rfl⟩ ?_
  exact l_eq hK dL_law_1053 (by decide) (kk σ1 τ1 (R1.mono (by omega)))
theorem k_28 {GC GM : Geo} {K : KT} {l0 : Launch} {b bS L i S : Nat} {xs : Nat → Int32} {σ τ : Store} (hK : lOk GC GM K l0 b bS L xs) (hL : L ≤ 384) (hi : i + 5 < L) (hS : S ≤ 2000000) (R : Rel S σ τ) (kk : ∀ σ1 τ1, Rel (S + 3600) σ1 τ1 → lV GC GM K b σ1 τ1 1546 (lL GC GM bS i) []) : lV GC GM K b σ τ 1058 (lL GC GM bS i) [] := by
  obtain ⟨r, h8, h9⟩ := o_textTold R (xs (i + 1)) (xs (i + 2))
  refine l_ldC (q := 1059) hK dL_law_1058 rfl ?_
  refine l_arg (k := 1) (q := 1064) hK dL_law_1059 dL_law_1060 dL_law_1061 dL_law_1062 dL_law_1063 (by decide) hL (by omega) rfl ?_
  refine l_arg (k := 2) (q := 1069) hK dL_law_1064 dL_law_1065 dL_law_1066 dL_law_1067 dL_law_1068 (by decide) hL (by omega) rfl ?_
  refine l_callC (q := 1072) (As := [.int (xs (i + 1)), .int (xs (i + 2))]) (rest := []) hK dL_law_1069 rfl (c_X8_textTold _ _ _ _ h8) rfl mv_X8_textTold rfl rfl (Nat.le_of_ble_eq_true rfl) tw_701 mw_X8_textTold ⟨⟨rfl, rfl⟩, Nat.le_of_ble_eq_true rfl, Nat.le_of_ble_eq_true rfl⟩ ?_
  refine l_ldM (q := 1073) hK dL_law_1072 rfl ?_
  refine l_arg (k := 1) (q := 1078) hK dL_law_1073 dL_law_1074 dL_law_1075 dL_law_1076 dL_law_1077 (by decide) hL (by omega) rfl ?_
  refine l_arg (k := 2) (q := 1083) hK dL_law_1078 dL_law_1079 dL_law_1080 dL_law_1081 dL_law_1082 (by decide) hL (by omega) rfl ?_
  refine l_callM (q := 1086) (As := [.int (xs (i + 1)), .int (xs (i + 2))]) (rest := [.int r]) hK dL_law_1083 rfl (c_X9_textTold _ _ _ _ h9) rfl mv_X9_textTold rfl rfl (Nat.le_of_ble_eq_true rfl) tw_1257 mw_X9_textTold ⟨⟨rfl, rfl⟩, Nat.le_of_ble_eq_true rfl, Nat.le_of_ble_eq_true rfl⟩ ?_
  exact l_eq hK dL_law_1086 (by decide) (kk σ τ (R.mono (by omega)))
theorem k_29 {GC GM : Geo} {K : KT} {l0 : Launch} {b bS L i S : Nat} {xs : Nat → Int32} {σ τ : Store} (hK : lOk GC GM K l0 b bS L xs) (hL : L ≤ 384) (hi : i + 5 < L) (hS : S ≤ 2000000) (R : Rel S σ τ) (kk : ∀ σ1 τ1, Rel (S + 3600) σ1 τ1 → lV GC GM K b σ1 τ1 1546 (lL GC GM bS i) []) : lV GC GM K b σ τ 1091 (lL GC GM bS i) [] := by
  obtain ⟨r, h8, h9⟩ := o_why R (xs (i + 1))
  refine l_ldC (q := 1092) hK dL_law_1091 rfl ?_
  refine l_arg (k := 1) (q := 1097) hK dL_law_1092 dL_law_1093 dL_law_1094 dL_law_1095 dL_law_1096 (by decide) hL (by omega) rfl ?_
  refine l_callC (q := 1100) (As := [.int (xs (i + 1))]) (rest := []) hK dL_law_1097 rfl (c_X8_why _ _ _ h8) rfl mv_X8_why rfl rfl (Nat.le_of_ble_eq_true rfl) tw_705 mw_X8_why ⟨⟨rfl, rfl⟩, Nat.le_of_ble_eq_true rfl, Nat.le_of_ble_eq_true rfl⟩ ?_
  refine l_ldM (q := 1101) hK dL_law_1100 rfl ?_
  refine l_arg (k := 1) (q := 1106) hK dL_law_1101 dL_law_1102 dL_law_1103 dL_law_1104 dL_law_1105 (by decide) hL (by omega) rfl ?_
  refine l_callM (q := 1109) (As := [.int (xs (i + 1))]) (rest := [.int r]) hK dL_law_1106 rfl (c_X9_why _ _ _ h9) rfl mv_X9_why rfl rfl (Nat.le_of_ble_eq_true rfl) tw_1261 mw_X9_why ⟨⟨rfl, rfl⟩, Nat.le_of_ble_eq_true rfl, Nat.le_of_ble_eq_true rfl⟩ ?_
  exact l_eq hK dL_law_1109 (by decide) (kk σ τ (R.mono (by omega)))
theorem k_30 {GC GM : Geo} {K : KT} {l0 : Launch} {b bS L i S : Nat} {xs : Nat → Int32} {σ τ : Store} (hK : lOk GC GM K l0 b bS L xs) (hL : L ≤ 384) (hi : i + 5 < L) (hS : S ≤ 2000000) (R : Rel S σ τ) (kk : ∀ σ1 τ1, Rel (S + 3600) σ1 τ1 → lV GC GM K b σ1 τ1 1546 (lL GC GM bS i) []) : lV GC GM K b σ τ 1114 (lL GC GM bS i) [] := by
  obtain ⟨r, σ1, τ1, h8, h9, R1⟩ := o_sheet R (xs (i + 1)) (xs (i + 2)) (xs (i + 3))
  refine l_ldC (q := 1115) hK dL_law_1114 rfl ?_
  refine l_arg (k := 1) (q := 1120) hK dL_law_1115 dL_law_1116 dL_law_1117 dL_law_1118 dL_law_1119 (by decide) hL (by omega) rfl ?_
  refine l_arg (k := 2) (q := 1125) hK dL_law_1120 dL_law_1121 dL_law_1122 dL_law_1123 dL_law_1124 (by decide) hL (by omega) rfl ?_
  refine l_arg (k := 3) (q := 1130) hK dL_law_1125 dL_law_1126 dL_law_1127 dL_law_1128 dL_law_1129 (by decide) hL (by omega) rfl ?_
  refine l_callC (q := 1133) (As := [.int (xs (i + 1)), .int (xs (i + 2)), .int (xs (i + 3))]) (rest := []) hK dL_law_1130 rfl (c_X8_sheet _ _ _ _ _ h8) rfl mv_X8_sheet rfl rfl (Nat.le_of_ble_eq_true rfl) tw_709 mw_X8_sheet ⟨⟨rfl, rfl⟩, Nat.le_of_ble_eq_true rfl, Nat.le_of_ble_eq_true rfl⟩ ?_
  refine l_ldM (q := 1134) hK dL_law_1133 rfl ?_
  refine l_arg (k := 1) (q := 1139) hK dL_law_1134 dL_law_1135 dL_law_1136 dL_law_1137 dL_law_1138 (by decide) hL (by omega) rfl ?_
  refine l_arg (k := 2) (q := 1144) hK dL_law_1139 dL_law_1140 dL_law_1141 dL_law_1142 dL_law_1143 (by decide) hL (by omega) rfl ?_
  refine l_arg (k := 3) (q := 1149) hK dL_law_1144 dL_law_1145 dL_law_1146 dL_law_1147 dL_law_1148 (by decide) hL (by omega) rfl ?_
  refine l_callM (q := 1152) (As := [.int (xs (i + 1)), .int (xs (i + 2)), .int (xs (i + 3))]) (rest := [.int r]) hK dL_law_1149 rfl (c_X9_sheet _ _ _ _ _ h9) rfl mv_X9_sheet rfl rfl (Nat.le_of_ble_eq_true rfl) tw_1265 mw_X9_sheet ⟨⟨rfl, rfl⟩, Nat.le_of_ble_eq_true rfl, Nat.le_of_ble_eq_true rfl⟩ ?_
  exact l_eq hK dL_law_1152 (by decide) (kk σ1 τ1 (R1.mono (by omega)))
theorem k_31 {GC GM : Geo} {K : KT} {l0 : Launch} {b bS L i S : Nat} {xs : Nat → Int32} {σ τ : Store} (hK : lOk GC GM K l0 b bS L xs) (hL : L ≤ 384) (hi : i + 5 < L) (hS : S ≤ 2000000) (R : Rel S σ τ) (kk : ∀ σ1 τ1, Rel (S + 3600) σ1 τ1 → lV GC GM K b σ1 τ1 1546 (lL GC GM bS i) []) : lV GC GM K b σ τ 1157 (lL GC GM bS i) [] := by
  obtain ⟨r, σ1, τ1, h8, h9, R1⟩ := o_mark R (xs (i + 1)) (xs (i + 2)) (xs (i + 3))
  refine l_ldC (q := 1158) hK dL_law_1157 rfl ?_
  refine l_arg (k := 1) (q := 1163) hK dL_law_1158 dL_law_1159 dL_law_1160 dL_law_1161 dL_law_1162 (by decide) hL (by omega) rfl ?_
  refine l_arg (k := 2) (q := 1168) hK dL_law_1163 dL_law_1164 dL_law_1165 dL_law_1166 dL_law_1167 (by decide) hL (by omega) rfl ?_
  refine l_arg (k := 3) (q := 1173) hK dL_law_1168 dL_law_1169 dL_law_1170 dL_law_1171 dL_law_1172 (by decide) hL (by omega) rfl ?_
  refine l_callC (q := 1176) (As := [.int (xs (i + 1)), .int (xs (i + 2)), .int (xs (i + 3))]) (rest := []) hK dL_law_1173 rfl (c_X8_mark _ _ _ _ _ h8) rfl mv_X8_mark rfl rfl (Nat.le_of_ble_eq_true rfl) tw_718 mw_X8_mark ⟨⟨rfl, rfl⟩, Nat.le_of_ble_eq_true rfl, Nat.le_of_ble_eq_true rfl⟩ ?_
  refine l_ldM (q := 1177) hK dL_law_1176 rfl ?_
  refine l_arg (k := 1) (q := 1182) hK dL_law_1177 dL_law_1178 dL_law_1179 dL_law_1180 dL_law_1181 (by decide) hL (by omega) rfl ?_
  refine l_arg (k := 2) (q := 1187) hK dL_law_1182 dL_law_1183 dL_law_1184 dL_law_1185 dL_law_1186 (by decide) hL (by omega) rfl ?_
  refine l_arg (k := 3) (q := 1192) hK dL_law_1187 dL_law_1188 dL_law_1189 dL_law_1190 dL_law_1191 (by decide) hL (by omega) rfl ?_
  refine l_callM (q := 1195) (As := [.int (xs (i + 1)), .int (xs (i + 2)), .int (xs (i + 3))]) (rest := [.int r]) hK dL_law_1192 rfl (c_X9_mark _ _ _ _ _ h9) rfl mv_X9_mark rfl rfl (Nat.le_of_ble_eq_true rfl) tw_1270 mw_X9_mark ⟨⟨rfl, rfl⟩, Nat.le_of_ble_eq_true rfl, Nat.le_of_ble_eq_true rfl⟩ ?_
  exact l_eq hK dL_law_1195 (by decide) (kk σ1 τ1 (R1.mono (by omega)))
theorem k_32 {GC GM : Geo} {K : KT} {l0 : Launch} {b bS L i S : Nat} {xs : Nat → Int32} {σ τ : Store} (hK : lOk GC GM K l0 b bS L xs) (hL : L ≤ 384) (hi : i + 5 < L) (hS : S ≤ 2000000) (R : Rel S σ τ) (kk : ∀ σ1 τ1, Rel (S + 3600) σ1 τ1 → lV GC GM K b σ1 τ1 1546 (lL GC GM bS i) []) : lV GC GM K b σ τ 1200 (lL GC GM bS i) [] := by
  obtain ⟨r, σ1, τ1, h8, h9, R1⟩ := o_pour R (xs (i + 1))
  refine l_ldC (q := 1201) hK dL_law_1200 rfl ?_
  refine l_arg (k := 1) (q := 1206) hK dL_law_1201 dL_law_1202 dL_law_1203 dL_law_1204 dL_law_1205 (by decide) hL (by omega) rfl ?_
  refine l_callC (q := 1209) (As := [.int (xs (i + 1))]) (rest := []) hK dL_law_1206 rfl (c_X8_pour _ _ _ h8) rfl mv_X8_pour rfl rfl (Nat.le_of_ble_eq_true rfl) tw_726 mw_X8_pour ⟨⟨rfl, rfl⟩, Nat.le_of_ble_eq_true rfl, Nat.le_of_ble_eq_true rfl⟩ ?_
  refine l_ldM (q := 1210) hK dL_law_1209 rfl ?_
  refine l_arg (k := 1) (q := 1215) hK dL_law_1210 dL_law_1211 dL_law_1212 dL_law_1213 dL_law_1214 (by decide) hL (by omega) rfl ?_
  refine l_callM (q := 1218) (As := [.int (xs (i + 1))]) (rest := [.int r]) hK dL_law_1215 rfl (c_X9_pour _ _ _ h9) rfl mv_X9_pour rfl rfl (Nat.le_of_ble_eq_true rfl) tw_1277 mw_X9_pour ⟨⟨rfl, rfl⟩, Nat.le_of_ble_eq_true rfl, Nat.le_of_ble_eq_true rfl⟩ ?_
  exact l_eq hK dL_law_1218 (by decide) (kk σ1 τ1 (R1.mono (by omega)))
theorem k_33 {GC GM : Geo} {K : KT} {l0 : Launch} {b bS L i S : Nat} {xs : Nat → Int32} {σ τ : Store} (hK : lOk GC GM K l0 b bS L xs) (hL : L ≤ 384) (hi : i + 5 < L) (hS : S ≤ 2000000) (R : Rel S σ τ) (kk : ∀ σ1 τ1, Rel (S + 3600) σ1 τ1 → lV GC GM K b σ1 τ1 1546 (lL GC GM bS i) []) : lV GC GM K b σ τ 1223 (lL GC GM bS i) [] := by
  obtain ⟨r, h8, h9⟩ := o_reads R (xs (i + 1))
  refine l_ldC (q := 1224) hK dL_law_1223 rfl ?_
  refine l_arg (k := 1) (q := 1229) hK dL_law_1224 dL_law_1225 dL_law_1226 dL_law_1227 dL_law_1228 (by decide) hL (by omega) rfl ?_
  refine l_callC (q := 1232) (As := [.int (xs (i + 1))]) (rest := []) hK dL_law_1229 rfl (c_X8_reads _ _ _ h8) rfl mv_X8_reads rfl rfl (Nat.le_of_ble_eq_true rfl) tw_731 mw_X8_reads ⟨⟨rfl, rfl⟩, Nat.le_of_ble_eq_true rfl, Nat.le_of_ble_eq_true rfl⟩ ?_
  refine l_ldM (q := 1233) hK dL_law_1232 rfl ?_
  refine l_arg (k := 1) (q := 1238) hK dL_law_1233 dL_law_1234 dL_law_1235 dL_law_1236 dL_law_1237 (by decide) hL (by omega) rfl ?_
  refine l_callM (q := 1241) (As := [.int (xs (i + 1))]) (rest := [.int r]) hK dL_law_1238 rfl (c_X9_reads _ _ _ h9) rfl mv_X9_reads rfl rfl (Nat.le_of_ble_eq_true rfl) tw_1281 mw_X9_reads ⟨⟨rfl, rfl⟩, Nat.le_of_ble_eq_true rfl, Nat.le_of_ble_eq_true rfl⟩ ?_
  exact l_eq hK dL_law_1241 (by decide) (kk σ τ (R.mono (by omega)))
theorem k_34 {GC GM : Geo} {K : KT} {l0 : Launch} {b bS L i S : Nat} {xs : Nat → Int32} {σ τ : Store} (hK : lOk GC GM K l0 b bS L xs) (hL : L ≤ 384) (hi : i + 5 < L) (hS : S ≤ 2000000) (R : Rel S σ τ) (kk : ∀ σ1 τ1, Rel (S + 3600) σ1 τ1 → lV GC GM K b σ1 τ1 1546 (lL GC GM bS i) []) : lV GC GM K b σ τ 1246 (lL GC GM bS i) [] := by
  obtain ⟨r, σ1, τ1, h8, h9, R1⟩ := o_copy R (xs (i + 1)) (xs (i + 2)) (xs (i + 3)) (xs (i + 4)) (xs (i + 5))
  refine l_ldC (q := 1247) hK dL_law_1246 rfl ?_
  refine l_arg (k := 1) (q := 1252) hK dL_law_1247 dL_law_1248 dL_law_1249 dL_law_1250 dL_law_1251 (by decide) hL (by omega) rfl ?_
  refine l_arg (k := 2) (q := 1257) hK dL_law_1252 dL_law_1253 dL_law_1254 dL_law_1255 dL_law_1256 (by decide) hL (by omega) rfl ?_
  refine l_arg (k := 3) (q := 1262) hK dL_law_1257 dL_law_1258 dL_law_1259 dL_law_1260 dL_law_1261 (by decide) hL (by omega) rfl ?_
  refine l_arg (k := 4) (q := 1267) hK dL_law_1262 dL_law_1263 dL_law_1264 dL_law_1265 dL_law_1266 (by decide) hL (by omega) rfl ?_
  refine l_arg (k := 5) (q := 1272) hK dL_law_1267 dL_law_1268 dL_law_1269 dL_law_1270 dL_law_1271 (by decide) hL (by omega) rfl ?_
  refine l_callC (q := 1275) (As := [.int (xs (i + 1)), .int (xs (i + 2)), .int (xs (i + 3)), .int (xs (i + 4)), .int (xs (i + 5))]) (rest := []) hK dL_law_1272 rfl (c_X8_copy _ _ _ _ _ _ _ h8) rfl mv_X8_copy rfl rfl (Nat.le_of_ble_eq_true rfl) tw_735 mw_X8_copy ⟨⟨rfl, rfl⟩, Nat.le_of_ble_eq_true rfl, Nat.le_of_ble_eq_true rfl⟩ ?_
  refine l_ldM (q := 1276) hK dL_law_1275 rfl ?_
  refine l_arg (k := 1) (q := 1281) hK dL_law_1276 dL_law_1277 dL_law_1278 dL_law_1279 dL_law_1280 (by decide) hL (by omega) rfl ?_
  refine l_arg (k := 2) (q := 1286) hK dL_law_1281 dL_law_1282 dL_law_1283 dL_law_1284 dL_law_1285 (by decide) hL (by omega) rfl ?_
  refine l_arg (k := 3) (q := 1291) hK dL_law_1286 dL_law_1287 dL_law_1288 dL_law_1289 dL_law_1290 (by decide) hL (by omega) rfl ?_
  refine l_arg (k := 4) (q := 1296) hK dL_law_1291 dL_law_1292 dL_law_1293 dL_law_1294 dL_law_1295 (by decide) hL (by omega) rfl ?_
  refine l_arg (k := 5) (q := 1301) hK dL_law_1296 dL_law_1297 dL_law_1298 dL_law_1299 dL_law_1300 (by decide) hL (by omega) rfl ?_
  refine l_callM (q := 1304) (As := [.int (xs (i + 1)), .int (xs (i + 2)), .int (xs (i + 3)), .int (xs (i + 4)), .int (xs (i + 5))]) (rest := [.int r]) hK dL_law_1301 rfl (c_X9_copy _ _ _ _ _ _ _ h9) rfl mv_X9_copy rfl rfl (Nat.le_of_ble_eq_true rfl) tw_1285 mw_X9_copy ⟨⟨rfl, rfl⟩, Nat.le_of_ble_eq_true rfl, Nat.le_of_ble_eq_true rfl⟩ ?_
  exact l_eq hK dL_law_1304 (by decide) (kk σ1 τ1 (R1.mono (by omega)))
theorem k_35 {GC GM : Geo} {K : KT} {l0 : Launch} {b bS L i S : Nat} {xs : Nat → Int32} {σ τ : Store} (hK : lOk GC GM K l0 b bS L xs) (hL : L ≤ 384) (hi : i + 5 < L) (hS : S ≤ 2000000) (R : Rel S σ τ) (kk : ∀ σ1 τ1, Rel (S + 3600) σ1 τ1 → lV GC GM K b σ1 τ1 1546 (lL GC GM bS i) []) : lV GC GM K b σ τ 1309 (lL GC GM bS i) [] := by
  obtain ⟨r, σ1, τ1, h8, h9, R1⟩ := o_lay R (xs (i + 1)) (xs (i + 2)) (xs (i + 3))
  refine l_ldC (q := 1310) hK dL_law_1309 rfl ?_
  refine l_arg (k := 1) (q := 1315) hK dL_law_1310 dL_law_1311 dL_law_1312 dL_law_1313 dL_law_1314 (by decide) hL (by omega) rfl ?_
  refine l_arg (k := 2) (q := 1320) hK dL_law_1315 dL_law_1316 dL_law_1317 dL_law_1318 dL_law_1319 (by decide) hL (by omega) rfl ?_
  refine l_arg (k := 3) (q := 1325) hK dL_law_1320 dL_law_1321 dL_law_1322 dL_law_1323 dL_law_1324 (by decide) hL (by omega) rfl ?_
  refine l_callC (q := 1328) (As := [.int (xs (i + 1)), .int (xs (i + 2)), .int (xs (i + 3))]) (rest := []) hK dL_law_1325 rfl (c_X8_lay _ _ _ _ _ h8) rfl mv_X8_lay rfl rfl (Nat.le_of_ble_eq_true rfl) tw_744 mw_X8_lay ⟨⟨rfl, rfl⟩, Nat.le_of_ble_eq_true rfl, Nat.le_of_ble_eq_true rfl⟩ ?_
  refine l_ldM (q := 1329) hK dL_law_1328 rfl ?_
  refine l_arg (k := 1) (q := 1334) hK dL_law_1329 dL_law_1330 dL_law_1331 dL_law_1332 dL_law_1333 (by decide) hL (by omega) rfl ?_
  refine l_arg (k := 2) (q := 1339) hK dL_law_1334 dL_law_1335 dL_law_1336 dL_law_1337 dL_law_1338 (by decide) hL (by omega) rfl ?_
  refine l_arg (k := 3) (q := 1344) hK dL_law_1339 dL_law_1340 dL_law_1341 dL_law_1342 dL_law_1343 (by decide) hL (by omega) rfl ?_
  refine l_callM (q := 1347) (As := [.int (xs (i + 1)), .int (xs (i + 2)), .int (xs (i + 3))]) (rest := [.int r]) hK dL_law_1344 rfl (c_X9_lay _ _ _ _ _ h9) rfl mv_X9_lay rfl rfl (Nat.le_of_ble_eq_true rfl) tw_1289 mw_X9_lay ⟨⟨rfl, rfl⟩, Nat.le_of_ble_eq_true rfl, Nat.le_of_ble_eq_true rfl⟩ ?_
  exact l_eq hK dL_law_1347 (by decide) (kk σ1 τ1 (R1.mono (by omega)))
theorem k_36 {GC GM : Geo} {K : KT} {l0 : Launch} {b bS L i S : Nat} {xs : Nat → Int32} {σ τ : Store} (hK : lOk GC GM K l0 b bS L xs) (hL : L ≤ 384) (hi : i + 5 < L) (hS : S ≤ 2000000) (R : Rel S σ τ) (kk : ∀ σ1 τ1, Rel (S + 3600) σ1 τ1 → lV GC GM K b σ1 τ1 1546 (lL GC GM bS i) []) : lV GC GM K b σ τ 1352 (lL GC GM bS i) [] := by
  obtain ⟨r, h8, h9⟩ := o_ask R (xs (i + 1)) (xs (i + 2))
  refine l_ldC (q := 1353) hK dL_law_1352 rfl ?_
  refine l_arg (k := 1) (q := 1358) hK dL_law_1353 dL_law_1354 dL_law_1355 dL_law_1356 dL_law_1357 (by decide) hL (by omega) rfl ?_
  refine l_arg (k := 2) (q := 1363) hK dL_law_1358 dL_law_1359 dL_law_1360 dL_law_1361 dL_law_1362 (by decide) hL (by omega) rfl ?_
  refine l_callC (q := 1366) (As := [.int (xs (i + 1)), .int (xs (i + 2))]) (rest := []) hK dL_law_1363 rfl (c_X8_ask _ _ _ _ h8) rfl mv_X8_ask rfl rfl (Nat.le_of_ble_eq_true rfl) tw_757 mw_X8_ask ⟨⟨rfl, rfl⟩, Nat.le_of_ble_eq_true rfl, Nat.le_of_ble_eq_true rfl⟩ ?_
  refine l_ldM (q := 1367) hK dL_law_1366 rfl ?_
  refine l_arg (k := 1) (q := 1372) hK dL_law_1367 dL_law_1368 dL_law_1369 dL_law_1370 dL_law_1371 (by decide) hL (by omega) rfl ?_
  refine l_arg (k := 2) (q := 1377) hK dL_law_1372 dL_law_1373 dL_law_1374 dL_law_1375 dL_law_1376 (by decide) hL (by omega) rfl ?_
  refine l_callM (q := 1380) (As := [.int (xs (i + 1)), .int (xs (i + 2))]) (rest := [.int r]) hK dL_law_1377 rfl (c_X9_ask _ _ _ _ h9) rfl mv_X9_ask rfl rfl (Nat.le_of_ble_eq_true rfl) tw_1300 mw_X9_ask ⟨⟨rfl, rfl⟩, Nat.le_of_ble_eq_true rfl, Nat.le_of_ble_eq_true rfl⟩ ?_
  exact l_eq hK dL_law_1380 (by decide) (kk σ τ (R.mono (by omega)))
theorem k_37 {GC GM : Geo} {K : KT} {l0 : Launch} {b bS L i S : Nat} {xs : Nat → Int32} {σ τ : Store} (hK : lOk GC GM K l0 b bS L xs) (hL : L ≤ 384) (hi : i + 5 < L) (hS : S ≤ 2000000) (R : Rel S σ τ) (kk : ∀ σ1 τ1, Rel (S + 3600) σ1 τ1 → lV GC GM K b σ1 τ1 1546 (lL GC GM bS i) []) : lV GC GM K b σ τ 1385 (lL GC GM bS i) [] := by
  obtain ⟨r, h8, h9⟩ := o_item R (xs (i + 1)) (xs (i + 2))
  refine l_ldC (q := 1386) hK dL_law_1385 rfl ?_
  refine l_arg (k := 1) (q := 1391) hK dL_law_1386 dL_law_1387 dL_law_1388 dL_law_1389 dL_law_1390 (by decide) hL (by omega) rfl ?_
  refine l_arg (k := 2) (q := 1396) hK dL_law_1391 dL_law_1392 dL_law_1393 dL_law_1394 dL_law_1395 (by decide) hL (by omega) rfl ?_
  refine l_callC (q := 1399) (As := [.int (xs (i + 1)), .int (xs (i + 2))]) (rest := []) hK dL_law_1396 rfl (c_X8_item _ _ _ _ h8) rfl mv_X8_item rfl rfl (Nat.le_of_ble_eq_true rfl) tw_761 mw_X8_item ⟨⟨rfl, rfl⟩, Nat.le_of_ble_eq_true rfl, Nat.le_of_ble_eq_true rfl⟩ ?_
  refine l_ldM (q := 1400) hK dL_law_1399 rfl ?_
  refine l_arg (k := 1) (q := 1405) hK dL_law_1400 dL_law_1401 dL_law_1402 dL_law_1403 dL_law_1404 (by decide) hL (by omega) rfl ?_
  refine l_arg (k := 2) (q := 1410) hK dL_law_1405 dL_law_1406 dL_law_1407 dL_law_1408 dL_law_1409 (by decide) hL (by omega) rfl ?_
  refine l_callM (q := 1413) (As := [.int (xs (i + 1)), .int (xs (i + 2))]) (rest := [.int r]) hK dL_law_1410 rfl (c_X9_item _ _ _ _ h9) rfl mv_X9_item rfl rfl (Nat.le_of_ble_eq_true rfl) tw_1304 mw_X9_item ⟨⟨rfl, rfl⟩, Nat.le_of_ble_eq_true rfl, Nat.le_of_ble_eq_true rfl⟩ ?_
  exact l_eq hK dL_law_1413 (by decide) (kk σ τ (R.mono (by omega)))
theorem k_38 {GC GM : Geo} {K : KT} {l0 : Launch} {b bS L i S : Nat} {xs : Nat → Int32} {σ τ : Store} (hK : lOk GC GM K l0 b bS L xs) (hL : L ≤ 384) (hi : i + 5 < L) (hS : S ≤ 2000000) (R : Rel S σ τ) (kk : ∀ σ1 τ1, Rel (S + 3600) σ1 τ1 → lV GC GM K b σ1 τ1 1546 (lL GC GM bS i) []) : lV GC GM K b σ τ 1418 (lL GC GM bS i) [] := by
  obtain ⟨r, h8, h9⟩ := o_rest R (xs (i + 1)) (xs (i + 2))
  refine l_ldC (q := 1419) hK dL_law_1418 rfl ?_
  refine l_arg (k := 1) (q := 1424) hK dL_law_1419 dL_law_1420 dL_law_1421 dL_law_1422 dL_law_1423 (by decide) hL (by omega) rfl ?_
  refine l_arg (k := 2) (q := 1429) hK dL_law_1424 dL_law_1425 dL_law_1426 dL_law_1427 dL_law_1428 (by decide) hL (by omega) rfl ?_
  refine l_callC (q := 1432) (As := [.int (xs (i + 1)), .int (xs (i + 2))]) (rest := []) hK dL_law_1429 rfl (c_X8_rest _ _ _ _ h8) rfl mv_X8_rest rfl rfl (Nat.le_of_ble_eq_true rfl) tw_765 mw_X8_rest ⟨⟨rfl, rfl⟩, Nat.le_of_ble_eq_true rfl, Nat.le_of_ble_eq_true rfl⟩ ?_
  refine l_ldM (q := 1433) hK dL_law_1432 rfl ?_
  refine l_arg (k := 1) (q := 1438) hK dL_law_1433 dL_law_1434 dL_law_1435 dL_law_1436 dL_law_1437 (by decide) hL (by omega) rfl ?_
  refine l_arg (k := 2) (q := 1443) hK dL_law_1438 dL_law_1439 dL_law_1440 dL_law_1441 dL_law_1442 (by decide) hL (by omega) rfl ?_
  refine l_callM (q := 1446) (As := [.int (xs (i + 1)), .int (xs (i + 2))]) (rest := [.int r]) hK dL_law_1443 rfl (c_X9_rest _ _ _ _ h9) rfl mv_X9_rest rfl rfl (Nat.le_of_ble_eq_true rfl) tw_1308 mw_X9_rest ⟨⟨rfl, rfl⟩, Nat.le_of_ble_eq_true rfl, Nat.le_of_ble_eq_true rfl⟩ ?_
  exact l_eq hK dL_law_1446 (by decide) (kk σ τ (R.mono (by omega)))
theorem k_39 {GC GM : Geo} {K : KT} {l0 : Launch} {b bS L i S : Nat} {xs : Nat → Int32} {σ τ : Store} (hK : lOk GC GM K l0 b bS L xs) (hL : L ≤ 384) (hi : i + 5 < L) (hS : S ≤ 2000000) (R : Rel S σ τ) (kk : ∀ σ1 τ1, Rel (S + 3600) σ1 τ1 → lV GC GM K b σ1 τ1 1546 (lL GC GM bS i) []) : lV GC GM K b σ τ 1451 (lL GC GM bS i) [] := by
  obtain ⟨r, σ1, τ1, h8, h9, R1⟩ := o_tell R (xs (i + 1))
  refine l_ldC (q := 1452) hK dL_law_1451 rfl ?_
  refine l_arg (k := 1) (q := 1457) hK dL_law_1452 dL_law_1453 dL_law_1454 dL_law_1455 dL_law_1456 (by decide) hL (by omega) rfl ?_
  refine l_callC (q := 1460) (As := [.int (xs (i + 1))]) (rest := []) hK dL_law_1457 rfl (c_X8_tell _ _ _ h8) rfl mv_X8_tell rfl rfl (Nat.le_of_ble_eq_true rfl) tw_770 mw_X8_tell ⟨⟨rfl, rfl⟩, Nat.le_of_ble_eq_true rfl, Nat.le_of_ble_eq_true rfl⟩ ?_
  refine l_ldM (q := 1461) hK dL_law_1460 rfl ?_
  refine l_arg (k := 1) (q := 1466) hK dL_law_1461 dL_law_1462 dL_law_1463 dL_law_1464 dL_law_1465 (by decide) hL (by omega) rfl ?_
  refine l_callM (q := 1469) (As := [.int (xs (i + 1))]) (rest := [.int r]) hK dL_law_1466 rfl (c_X9_tell _ _ _ h9) rfl mv_X9_tell rfl rfl (Nat.le_of_ble_eq_true rfl) tw_1313 mw_X9_tell ⟨⟨rfl, rfl⟩, Nat.le_of_ble_eq_true rfl, Nat.le_of_ble_eq_true rfl⟩ ?_
  exact l_eq hK dL_law_1469 (by decide) (kk σ1 τ1 (R1.mono (by omega)))
theorem k_40 {GC GM : Geo} {K : KT} {l0 : Launch} {b bS L i S : Nat} {xs : Nat → Int32} {σ τ : Store} (hK : lOk GC GM K l0 b bS L xs) (hL : L ≤ 384) (hi : i + 5 < L) (hS : S ≤ 2000000) (R : Rel S σ τ) (kk : ∀ σ1 τ1, Rel (S + 3600) σ1 τ1 → lV GC GM K b σ1 τ1 1546 (lL GC GM bS i) []) : lV GC GM K b σ τ 1474 (lL GC GM bS i) [] := by
  obtain ⟨r, σ1, τ1, h8, h9, R1⟩ := o_check R (xs (i + 1))
  refine l_ldC (q := 1475) hK dL_law_1474 rfl ?_
  refine l_arg (k := 1) (q := 1480) hK dL_law_1475 dL_law_1476 dL_law_1477 dL_law_1478 dL_law_1479 (by decide) hL (by omega) rfl ?_
  refine l_callC (q := 1483) (As := [.int (xs (i + 1))]) (rest := []) hK dL_law_1480 rfl (c_X8_check _ _ _ h8) rfl mv_X8_check rfl rfl (Nat.le_of_ble_eq_true rfl) tw_774 mw_X8_check ⟨⟨rfl, rfl⟩, Nat.le_of_ble_eq_true rfl, Nat.le_of_ble_eq_true rfl⟩ ?_
  refine l_ldM (q := 1484) hK dL_law_1483 rfl ?_
  refine l_arg (k := 1) (q := 1489) hK dL_law_1484 dL_law_1485 dL_law_1486 dL_law_1487 dL_law_1488 (by decide) hL (by omega) rfl ?_
  refine l_callM (q := 1492) (As := [.int (xs (i + 1))]) (rest := [.int r]) hK dL_law_1489 rfl (c_X9_check _ _ _ h9) rfl mv_X9_check rfl rfl (Nat.le_of_ble_eq_true rfl) tw_1317 mw_X9_check ⟨⟨rfl, rfl⟩, Nat.le_of_ble_eq_true rfl, Nat.le_of_ble_eq_true rfl⟩ ?_
  exact l_eq hK dL_law_1492 (by decide) (kk σ1 τ1 (R1.mono (by omega)))
theorem k_41 {GC GM : Geo} {K : KT} {l0 : Launch} {b bS L i S : Nat} {xs : Nat → Int32} {σ τ : Store} (hK : lOk GC GM K l0 b bS L xs) (hL : L ≤ 384) (hi : i + 5 < L) (hS : S ≤ 2000000) (R : Rel S σ τ) (kk : ∀ σ1 τ1, Rel (S + 3600) σ1 τ1 → lV GC GM K b σ1 τ1 1546 (lL GC GM bS i) []) : lV GC GM K b σ τ 1497 (lL GC GM bS i) [] := by
  obtain ⟨r, σ1, τ1, h8, h9, R1⟩ := o_keep R 
  refine l_ldC (q := 1498) hK dL_law_1497 rfl ?_
  refine l_callC (q := 1501) (As := []) (rest := []) hK dL_law_1498 rfl (c_X8_keep  _ _ h8) rfl mv_X8_keep rfl rfl (Nat.le_of_ble_eq_true rfl) tw_778 mw_X8_keep ⟨⟨rfl, rfl⟩, Nat.le_of_ble_eq_true rfl, Nat.le_of_ble_eq_true rfl⟩ ?_
  refine l_ldM (q := 1502) hK dL_law_1501 rfl ?_
  refine l_callM (q := 1505) (As := []) (rest := [.int r]) hK dL_law_1502 rfl (c_X9_keep  _ _ h9) rfl mv_X9_keep rfl rfl (Nat.le_of_ble_eq_true rfl) tw_1321 mw_X9_keep ⟨⟨rfl, rfl⟩, Nat.le_of_ble_eq_true rfl, Nat.le_of_ble_eq_true rfl⟩ ?_
  exact l_eq hK dL_law_1505 (by decide) (kk σ1 τ1 (R1.mono (by omega)))
theorem k_42 {GC GM : Geo} {K : KT} {l0 : Launch} {b bS L i S : Nat} {xs : Nat → Int32} {σ τ : Store} (hK : lOk GC GM K l0 b bS L xs) (hL : L ≤ 384) (hi : i + 5 < L) (hS : S ≤ 2000000) (R : Rel S σ τ) (kk : ∀ σ1 τ1, Rel (S + 3600) σ1 τ1 → lV GC GM K b σ1 τ1 1546 (lL GC GM bS i) []) : lV GC GM K b σ τ 1510 (lL GC GM bS i) [] := by
  obtain ⟨r, σ1, τ1, h8, h9, R1⟩ := o_back R 
  refine l_ldC (q := 1511) hK dL_law_1510 rfl ?_
  refine l_callC (q := 1514) (As := []) (rest := []) hK dL_law_1511 rfl (c_X8_back  _ _ h8) rfl mv_X8_back rfl rfl (Nat.le_of_ble_eq_true rfl) tw_782 mw_X8_back ⟨⟨rfl, rfl⟩, Nat.le_of_ble_eq_true rfl, Nat.le_of_ble_eq_true rfl⟩ ?_
  refine l_ldM (q := 1515) hK dL_law_1514 rfl ?_
  refine l_callM (q := 1518) (As := []) (rest := [.int r]) hK dL_law_1515 rfl (c_X9_back  _ _ h9) rfl mv_X9_back rfl rfl (Nat.le_of_ble_eq_true rfl) tw_1325 mw_X9_back ⟨⟨rfl, rfl⟩, Nat.le_of_ble_eq_true rfl, Nat.le_of_ble_eq_true rfl⟩ ?_
  exact l_eq hK dL_law_1518 (by decide) (kk σ1 τ1 (R1.mono (by omega)))
theorem k_43 {GC GM : Geo} {K : KT} {l0 : Launch} {b bS L i S : Nat} {xs : Nat → Int32} {σ τ : Store} (hK : lOk GC GM K l0 b bS L xs) (hL : L ≤ 384) (hi : i + 5 < L) (hS : S ≤ 2000000) (R : Rel S σ τ) (kk : ∀ σ1 τ1, Rel (S + 3600) σ1 τ1 → lV GC GM K b σ1 τ1 1546 (lL GC GM bS i) []) : lV GC GM K b σ τ 1523 (lL GC GM bS i) [] := by
  obtain ⟨r, h8, h9⟩ := o_count R (xs (i + 1))
  refine l_ldC (q := 1524) hK dL_law_1523 rfl ?_
  refine l_arg (k := 1) (q := 1529) hK dL_law_1524 dL_law_1525 dL_law_1526 dL_law_1527 dL_law_1528 (by decide) hL (by omega) rfl ?_
  refine l_callC (q := 1532) (As := [.int (xs (i + 1))]) (rest := []) hK dL_law_1529 rfl (c_X8_count _ _ _ h8) rfl mv_X8_count rfl rfl (Nat.le_of_ble_eq_true rfl) tw_786 mw_X8_count ⟨⟨rfl, rfl⟩, Nat.le_of_ble_eq_true rfl, Nat.le_of_ble_eq_true rfl⟩ ?_
  refine l_ldM (q := 1533) hK dL_law_1532 rfl ?_
  refine l_arg (k := 1) (q := 1538) hK dL_law_1533 dL_law_1534 dL_law_1535 dL_law_1536 dL_law_1537 (by decide) hL (by omega) rfl ?_
  refine l_callM (q := 1541) (As := [.int (xs (i + 1))]) (rest := [.int r]) hK dL_law_1538 rfl (c_X9_count _ _ _ h9) rfl mv_X9_count rfl rfl (Nat.le_of_ble_eq_true rfl) tw_1329 mw_X9_count ⟨⟨rfl, rfl⟩, Nat.le_of_ble_eq_true rfl, Nat.le_of_ble_eq_true rfl⟩ ?_
  exact l_eq hK dL_law_1541 (by decide) (kk σ τ (R.mono (by omega)))
