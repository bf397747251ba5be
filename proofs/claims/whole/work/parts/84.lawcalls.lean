/-! THE LAW: each of its calls -/
section AC
variable {X : qX} {b L : Nat} {xs : Nat → Int32} {S : qSto} {i : Int}
set_option maxRecDepth 20000 in
theorem law_feed (hL : ∀ c, c < 93 → c ∈ qLs X) (hb : L ≤ 3072) (h0 : 0 ≤ i) (h6 : i + 6 ≤ (L : Int)) (hG : iG S) (ih : ∀ S', iG S' → aW X b L xs 1822 [(0, qo (.ref b)), (1, qr 0), (2, qr 70), (3, qi i)] [] S') : aW X b L xs 256 [(0, qo (.ref b)), (1, qr 0), (2, qr 70), (3, qi i)] [] S := by
  obtain ⟨r, S1, S2, e1, e2, h2⟩ := g_feed (a := (xs (i + 1).toNat).toInt) (b := (xs (i + 2).toNat).toInt) (c := (xs (i + 3).toNat).toInt) (d := (xs (i + 4).toNat).toInt) (e := (xs (i + 5).toNat).toInt) S hG
  refine a_aloadR dL_law_256 rfl rfl ?_
  refine a_arg hb dL_law_257 dL_law_258 dL_law_259 dL_law_260 dL_law_261 rfl rfl rfl rfl rfl rfl rfl (by omega) (by omega) ?_
  refine a_arg hb dL_law_262 dL_law_263 dL_law_264 dL_law_265 dL_law_266 rfl rfl rfl rfl rfl rfl rfl (by omega) (by omega) ?_
  refine a_arg hb dL_law_267 dL_law_268 dL_law_269 dL_law_270 dL_law_271 rfl rfl rfl rfl rfl rfl rfl (by omega) (by omega) ?_
  refine a_arg hb dL_law_272 dL_law_273 dL_law_274 dL_law_275 dL_law_276 rfl rfl rfl rfl rfl rfl rfl (by omega) (by omega) ?_
  refine a_arg hb dL_law_277 dL_law_278 dL_law_279 dL_law_280 dL_law_281 rfl rfl rfl rfl rfl rfl rfl (by omega) (by omega) ?_
  refine a_call (o := (r, S1)) (as := [qi (xs (i + 1).toNat).toInt, qi (xs (i + 2).toNat).toInt, qi (xs (i + 3).toNat).toInt, qi (xs (i + 4).toNat).toInt, qi (xs (i + 5).toNat).toInt]) dL_law_282 ml_L_13 rfl rfl (hL 0 (by decide)) sh_0 rfl rfl (Nat.le_of_ble_eq_true rfl) (Nat.le_of_ble_eq_true rfl) (fun Q' hQ' => C_feed_ok hL 0 _ _ _ _ _ _ (r, S1) e1 Q' hQ') rfl ?_
  refine a_aloadR dL_law_285 rfl rfl ?_
  refine a_arg hb dL_law_286 dL_law_287 dL_law_288 dL_law_289 dL_law_290 rfl rfl rfl rfl rfl rfl rfl (by omega) (by omega) ?_
  refine a_arg hb dL_law_291 dL_law_292 dL_law_293 dL_law_294 dL_law_295 rfl rfl rfl rfl rfl rfl rfl (by omega) (by omega) ?_
  refine a_arg hb dL_law_296 dL_law_297 dL_law_298 dL_law_299 dL_law_300 rfl rfl rfl rfl rfl rfl rfl (by omega) (by omega) ?_
  refine a_arg hb dL_law_301 dL_law_302 dL_law_303 dL_law_304 dL_law_305 rfl rfl rfl rfl rfl rfl rfl (by omega) (by omega) ?_
  refine a_arg hb dL_law_306 dL_law_307 dL_law_308 dL_law_309 dL_law_310 rfl rfl rfl rfl rfl rfl rfl (by omega) (by omega) ?_
  refine a_call (o := (r, S2)) (as := [qi (xs (i + 1).toNat).toInt, qi (xs (i + 2).toNat).toInt, qi (xs (i + 3).toNat).toInt, qi (xs (i + 4).toNat).toInt, qi (xs (i + 5).toNat).toInt]) dL_law_311 ml_L_17 rfl rfl (hL 70 (by decide)) sh_70 rfl rfl (Nat.le_of_ble_eq_true rfl) (Nat.le_of_ble_eq_true rfl) (fun Q' hQ' => M_feed_ok hL 0 _ _ _ _ _ _ (r, S2) e2 Q' hQ') rfl ?_
  exact a_icmp_eq dL_law_314 (by decide) rfl (ih S2 h2)
set_option maxRecDepth 20000 in
theorem law_text (hL : ∀ c, c < 93 → c ∈ qLs X) (hb : L ≤ 3072) (h0 : 0 ≤ i) (h6 : i + 6 ≤ (L : Int)) (hG : iG S) (ih : ∀ S', iG S' → aW X b L xs 1822 [(0, qo (.ref b)), (1, qr 0), (2, qr 70), (3, qi i)] [] S') : aW X b L xs 319 [(0, qo (.ref b)), (1, qr 0), (2, qr 70), (3, qi i)] [] S := by
  obtain ⟨r, S1, S2, e1, e2, h2⟩ := g_text (a_R (xs (i + 1).toNat)) S hG
  refine a_aloadR dL_law_319 rfl rfl ?_
  refine a_arg hb dL_law_320 dL_law_321 dL_law_322 dL_law_323 dL_law_324 rfl rfl rfl rfl rfl rfl rfl (by omega) (by omega) ?_
  refine a_call (o := (r, S1)) (as := [qi (xs (i + 1).toNat).toInt]) dL_law_325 ml_L_18 rfl rfl (hL 0 (by decide)) sh_0 rfl rfl (Nat.le_of_ble_eq_true rfl) (Nat.le_of_ble_eq_true rfl) (fun Q' hQ' => C_text_ok hL 0 _ _ (r, S1) e1 Q' hQ') rfl ?_
  refine a_aloadR dL_law_328 rfl rfl ?_
  refine a_arg hb dL_law_329 dL_law_330 dL_law_331 dL_law_332 dL_law_333 rfl rfl rfl rfl rfl rfl rfl (by omega) (by omega) ?_
  refine a_call (o := (r, S2)) (as := [qi (xs (i + 1).toNat).toInt]) dL_law_334 ml_L_22 rfl rfl (hL 70 (by decide)) sh_70 rfl rfl (Nat.le_of_ble_eq_true rfl) (Nat.le_of_ble_eq_true rfl) (fun Q' hQ' => M_text_ok hL 0 _ _ (r, S2) e2 Q' hQ') rfl ?_
  exact a_icmp_eq dL_law_337 (by decide) rfl (ih S2 h2)
set_option maxRecDepth 20000 in
theorem law_fault (hL : ∀ c, c < 93 → c ∈ qLs X) (hb : L ≤ 3072) (h0 : 0 ≤ i) (h6 : i + 6 ≤ (L : Int)) (hG : iG S) (ih : ∀ S', iG S' → aW X b L xs 1822 [(0, qo (.ref b)), (1, qr 0), (2, qr 70), (3, qi i)] [] S') : aW X b L xs 342 [(0, qo (.ref b)), (1, qr 0), (2, qr 70), (3, qi i)] [] S := by
  obtain ⟨r, S1, S2, e1, e2, h2⟩ := g_fault (a_R (xs (i + 1).toNat)) S hG
  refine a_aloadR dL_law_342 rfl rfl ?_
  refine a_arg hb dL_law_343 dL_law_344 dL_law_345 dL_law_346 dL_law_347 rfl rfl rfl rfl rfl rfl rfl (by omega) (by omega) ?_
  refine a_call (o := (r, S1)) (as := [qi (xs (i + 1).toNat).toInt]) dL_law_348 ml_L_23 rfl rfl (hL 0 (by decide)) sh_0 rfl rfl (Nat.le_of_ble_eq_true rfl) (Nat.le_of_ble_eq_true rfl) (fun Q' hQ' => C_fault_ok hL 0 _ _ (r, S1) e1 Q' hQ') rfl ?_
  refine a_aloadR dL_law_351 rfl rfl ?_
  refine a_arg hb dL_law_352 dL_law_353 dL_law_354 dL_law_355 dL_law_356 rfl rfl rfl rfl rfl rfl rfl (by omega) (by omega) ?_
  refine a_call (o := (r, S2)) (as := [qi (xs (i + 1).toNat).toInt]) dL_law_357 ml_L_26 rfl rfl (hL 70 (by decide)) sh_70 rfl rfl (Nat.le_of_ble_eq_true rfl) (Nat.le_of_ble_eq_true rfl) (fun Q' hQ' => M_fault_ok hL 0 _ _ (r, S2) e2 Q' hQ') rfl ?_
  exact a_icmp_eq dL_law_360 (by decide) rfl (ih S2 h2)
set_option maxRecDepth 20000 in
theorem law_count (hL : ∀ c, c < 93 → c ∈ qLs X) (hb : L ≤ 3072) (h0 : 0 ≤ i) (h6 : i + 6 ≤ (L : Int)) (hG : iG S) (ih : ∀ S', iG S' → aW X b L xs 1822 [(0, qo (.ref b)), (1, qr 0), (2, qr 70), (3, qi i)] [] S') : aW X b L xs 365 [(0, qo (.ref b)), (1, qr 0), (2, qr 70), (3, qi i)] [] S := by
  obtain ⟨r, S1, S2, e1, e2, h2⟩ := g_count (a_R (xs (i + 1).toNat)) S hG
  refine a_aloadR dL_law_365 rfl rfl ?_
  refine a_arg hb dL_law_366 dL_law_367 dL_law_368 dL_law_369 dL_law_370 rfl rfl rfl rfl rfl rfl rfl (by omega) (by omega) ?_
  refine a_call (o := (r, S1)) (as := [qi (xs (i + 1).toNat).toInt]) dL_law_371 ml_L_27 rfl rfl (hL 0 (by decide)) sh_0 rfl rfl (Nat.le_of_ble_eq_true rfl) (Nat.le_of_ble_eq_true rfl) (fun Q' hQ' => C_count_ok hL 0 _ _ (r, S1) e1 Q' hQ') rfl ?_
  refine a_aloadR dL_law_374 rfl rfl ?_
  refine a_arg hb dL_law_375 dL_law_376 dL_law_377 dL_law_378 dL_law_379 rfl rfl rfl rfl rfl rfl rfl (by omega) (by omega) ?_
  refine a_call (o := (r, S2)) (as := [qi (xs (i + 1).toNat).toInt]) dL_law_380 ml_L_30 rfl rfl (hL 70 (by decide)) sh_70 rfl rfl (Nat.le_of_ble_eq_true rfl) (Nat.le_of_ble_eq_true rfl) (fun Q' hQ' => M_count_ok hL 0 _ _ (r, S2) e2 Q' hQ') rfl ?_
  exact a_icmp_eq dL_law_383 (by decide) rfl (ih S2 h2)
set_option maxRecDepth 20000 in
theorem law_depth (hL : ∀ c, c < 93 → c ∈ qLs X) (hb : L ≤ 3072) (h0 : 0 ≤ i) (h6 : i + 6 ≤ (L : Int)) (hG : iG S) (ih : ∀ S', iG S' → aW X b L xs 1822 [(0, qo (.ref b)), (1, qr 0), (2, qr 70), (3, qi i)] [] S') : aW X b L xs 388 [(0, qo (.ref b)), (1, qr 0), (2, qr 70), (3, qi i)] [] S := by
  obtain ⟨r, S1, S2, e1, e2, h2⟩ := g_depth (a_R (xs (i + 1).toNat)) S hG
  refine a_aloadR dL_law_388 rfl rfl ?_
  refine a_arg hb dL_law_389 dL_law_390 dL_law_391 dL_law_392 dL_law_393 rfl rfl rfl rfl rfl rfl rfl (by omega) (by omega) ?_
  refine a_call (o := (r, S1)) (as := [qi (xs (i + 1).toNat).toInt]) dL_law_394 ml_L_31 rfl rfl (hL 0 (by decide)) sh_0 rfl rfl (Nat.le_of_ble_eq_true rfl) (Nat.le_of_ble_eq_true rfl) (fun Q' hQ' => C_depth_ok hL 0 _ _ (r, S1) e1 Q' hQ') rfl ?_
  refine a_aloadR dL_law_397 rfl rfl ?_
  refine a_arg hb dL_law_398 dL_law_399 dL_law_400 dL_law_401 dL_law_402 rfl rfl rfl rfl rfl rfl rfl (by omega) (by omega) ?_
  refine a_call (o := (r, S2)) (as := [qi (xs (i + 1).toNat).toInt]) dL_law_403 ml_L_34 rfl rfl (hL 70 (by decide)) sh_70 rfl rfl (Nat.le_of_ble_eq_true rfl) (Nat.le_of_ble_eq_true rfl) (fun Q' hQ' => M_depth_ok hL 0 _ _ (r, S2) e2 Q' hQ') rfl ?_
  exact a_icmp_eq dL_law_406 (by decide) rfl (ih S2 h2)
set_option maxRecDepth 20000 in
theorem law_shallow (hL : ∀ c, c < 93 → c ∈ qLs X) (hb : L ≤ 3072) (h0 : 0 ≤ i) (h6 : i + 6 ≤ (L : Int)) (hG : iG S) (ih : ∀ S', iG S' → aW X b L xs 1822 [(0, qo (.ref b)), (1, qr 0), (2, qr 70), (3, qi i)] [] S') : aW X b L xs 411 [(0, qo (.ref b)), (1, qr 0), (2, qr 70), (3, qi i)] [] S := by
  obtain ⟨r, S1, S2, e1, e2, h2⟩ := g_shallow (a_R (xs (i + 1).toNat)) (a_R (xs (i + 2).toNat)) S hG
  refine a_aloadR dL_law_411 rfl rfl ?_
  refine a_arg hb dL_law_412 dL_law_413 dL_law_414 dL_law_415 dL_law_416 rfl rfl rfl rfl rfl rfl rfl (by omega) (by omega) ?_
  refine a_arg hb dL_law_417 dL_law_418 dL_law_419 dL_law_420 dL_law_421 rfl rfl rfl rfl rfl rfl rfl (by omega) (by omega) ?_
  refine a_call (o := (r, S1)) (as := [qi (xs (i + 1).toNat).toInt, qi (xs (i + 2).toNat).toInt]) dL_law_422 ml_L_35 rfl rfl (hL 0 (by decide)) sh_0 rfl rfl (Nat.le_of_ble_eq_true rfl) (Nat.le_of_ble_eq_true rfl) (fun Q' hQ' => C_shallow_ok hL 0 _ _ _ (r, S1) e1 Q' hQ') rfl ?_
  refine a_aloadR dL_law_425 rfl rfl ?_
  refine a_arg hb dL_law_426 dL_law_427 dL_law_428 dL_law_429 dL_law_430 rfl rfl rfl rfl rfl rfl rfl (by omega) (by omega) ?_
  refine a_arg hb dL_law_431 dL_law_432 dL_law_433 dL_law_434 dL_law_435 rfl rfl rfl rfl rfl rfl rfl (by omega) (by omega) ?_
  refine a_call (o := (r, S2)) (as := [qi (xs (i + 1).toNat).toInt, qi (xs (i + 2).toNat).toInt]) dL_law_436 ml_L_39 rfl rfl (hL 70 (by decide)) sh_70 rfl rfl (Nat.le_of_ble_eq_true rfl) (Nat.le_of_ble_eq_true rfl) (fun Q' hQ' => M_shallow_ok hL 0 _ _ _ (r, S2) e2 Q' hQ') rfl ?_
  exact a_icmp_eq dL_law_439 (by decide) rfl (ih S2 h2)
set_option maxRecDepth 20000 in
theorem law_level (hL : ∀ c, c < 93 → c ∈ qLs X) (hb : L ≤ 3072) (h0 : 0 ≤ i) (h6 : i + 6 ≤ (L : Int)) (hG : iG S) (ih : ∀ S', iG S' → aW X b L xs 1822 [(0, qo (.ref b)), (1, qr 0), (2, qr 70), (3, qi i)] [] S') : aW X b L xs 444 [(0, qo (.ref b)), (1, qr 0), (2, qr 70), (3, qi i)] [] S := by
  obtain ⟨r, S1, S2, e1, e2, h2⟩ := g_level (a_R (xs (i + 1).toNat)) S hG
  refine a_aloadR dL_law_444 rfl rfl ?_
  refine a_arg hb dL_law_445 dL_law_446 dL_law_447 dL_law_448 dL_law_449 rfl rfl rfl rfl rfl rfl rfl (by omega) (by omega) ?_
  refine a_call (o := (r, S1)) (as := [qi (xs (i + 1).toNat).toInt]) dL_law_450 ml_L_40 rfl rfl (hL 0 (by decide)) sh_0 rfl rfl (Nat.le_of_ble_eq_true rfl) (Nat.le_of_ble_eq_true rfl) (fun Q' hQ' => C_level_ok hL 0 _ _ (r, S1) e1 Q' hQ') rfl ?_
  refine a_aloadR dL_law_453 rfl rfl ?_
  refine a_arg hb dL_law_454 dL_law_455 dL_law_456 dL_law_457 dL_law_458 rfl rfl rfl rfl rfl rfl rfl (by omega) (by omega) ?_
  refine a_call (o := (r, S2)) (as := [qi (xs (i + 1).toNat).toInt]) dL_law_459 ml_L_43 rfl rfl (hL 70 (by decide)) sh_70 rfl rfl (Nat.le_of_ble_eq_true rfl) (Nat.le_of_ble_eq_true rfl) (fun Q' hQ' => M_level_ok hL 0 _ _ (r, S2) e2 Q' hQ') rfl ?_
  exact a_icmp_eq dL_law_462 (by decide) rfl (ih S2 h2)
set_option maxRecDepth 20000 in
theorem law_gangs (hL : ∀ c, c < 93 → c ∈ qLs X) (hb : L ≤ 3072) (h0 : 0 ≤ i) (h6 : i + 6 ≤ (L : Int)) (hG : iG S) (ih : ∀ S', iG S' → aW X b L xs 1822 [(0, qo (.ref b)), (1, qr 0), (2, qr 70), (3, qi i)] [] S') : aW X b L xs 467 [(0, qo (.ref b)), (1, qr 0), (2, qr 70), (3, qi i)] [] S := by
  obtain ⟨r, S1, S2, e1, e2, h2⟩ := g_gangs (a_R (xs (i + 1).toNat)) (a_R (xs (i + 2).toNat)) S hG
  refine a_aloadR dL_law_467 rfl rfl ?_
  refine a_arg hb dL_law_468 dL_law_469 dL_law_470 dL_law_471 dL_law_472 rfl rfl rfl rfl rfl rfl rfl (by omega) (by omega) ?_
  refine a_arg hb dL_law_473 dL_law_474 dL_law_475 dL_law_476 dL_law_477 rfl rfl rfl rfl rfl rfl rfl (by omega) (by omega) ?_
  refine a_call (o := (r, S1)) (as := [qi (xs (i + 1).toNat).toInt, qi (xs (i + 2).toNat).toInt]) dL_law_478 ml_L_44 rfl rfl (hL 0 (by decide)) sh_0 rfl rfl (Nat.le_of_ble_eq_true rfl) (Nat.le_of_ble_eq_true rfl) (fun Q' hQ' => C_gangs_ok hL 0 _ _ _ (r, S1) e1 Q' hQ') rfl ?_
  refine a_aloadR dL_law_481 rfl rfl ?_
  refine a_arg hb dL_law_482 dL_law_483 dL_law_484 dL_law_485 dL_law_486 rfl rfl rfl rfl rfl rfl rfl (by omega) (by omega) ?_
  refine a_arg hb dL_law_487 dL_law_488 dL_law_489 dL_law_490 dL_law_491 rfl rfl rfl rfl rfl rfl rfl (by omega) (by omega) ?_
  refine a_call (o := (r, S2)) (as := [qi (xs (i + 1).toNat).toInt, qi (xs (i + 2).toNat).toInt]) dL_law_492 ml_L_47 rfl rfl (hL 70 (by decide)) sh_70 rfl rfl (Nat.le_of_ble_eq_true rfl) (Nat.le_of_ble_eq_true rfl) (fun Q' hQ' => M_gangs_ok hL 0 _ _ _ (r, S2) e2 Q' hQ') rfl ?_
  exact a_icmp_eq dL_law_495 (by decide) rfl (ih S2 h2)
set_option maxRecDepth 20000 in
theorem law_crane (hL : ∀ c, c < 93 → c ∈ qLs X) (hb : L ≤ 3072) (h0 : 0 ≤ i) (h6 : i + 6 ≤ (L : Int)) (hG : iG S) (ih : ∀ S', iG S' → aW X b L xs 1822 [(0, qo (.ref b)), (1, qr 0), (2, qr 70), (3, qi i)] [] S') : aW X b L xs 500 [(0, qo (.ref b)), (1, qr 0), (2, qr 70), (3, qi i)] [] S := by
  obtain ⟨r, S1, S2, e1, e2, h2⟩ := g_crane (a_R (xs (i + 1).toNat)) (a_R (xs (i + 2).toNat)) S hG
  refine a_aloadR dL_law_500 rfl rfl ?_
  refine a_arg hb dL_law_501 dL_law_502 dL_law_503 dL_law_504 dL_law_505 rfl rfl rfl rfl rfl rfl rfl (by omega) (by omega) ?_
  refine a_arg hb dL_law_506 dL_law_507 dL_law_508 dL_law_509 dL_law_510 rfl rfl rfl rfl rfl rfl rfl (by omega) (by omega) ?_
  refine a_call (o := (r, S1)) (as := [qi (xs (i + 1).toNat).toInt, qi (xs (i + 2).toNat).toInt]) dL_law_511 ml_L_48 rfl rfl (hL 0 (by decide)) sh_0 rfl rfl (Nat.le_of_ble_eq_true rfl) (Nat.le_of_ble_eq_true rfl) (fun Q' hQ' => C_crane_ok hL 0 _ _ _ (r, S1) e1 Q' hQ') rfl ?_
  refine a_aloadR dL_law_514 rfl rfl ?_
  refine a_arg hb dL_law_515 dL_law_516 dL_law_517 dL_law_518 dL_law_519 rfl rfl rfl rfl rfl rfl rfl (by omega) (by omega) ?_
  refine a_arg hb dL_law_520 dL_law_521 dL_law_522 dL_law_523 dL_law_524 rfl rfl rfl rfl rfl rfl rfl (by omega) (by omega) ?_
  refine a_call (o := (r, S2)) (as := [qi (xs (i + 1).toNat).toInt, qi (xs (i + 2).toNat).toInt]) dL_law_525 ml_L_51 rfl rfl (hL 70 (by decide)) sh_70 rfl rfl (Nat.le_of_ble_eq_true rfl) (Nat.le_of_ble_eq_true rfl) (fun Q' hQ' => M_crane_ok hL 0 _ _ _ (r, S2) e2 Q' hQ') rfl ?_
  exact a_icmp_eq dL_law_528 (by decide) rfl (ih S2 h2)
set_option maxRecDepth 20000 in
theorem law_ship (hL : ∀ c, c < 93 → c ∈ qLs X) (hb : L ≤ 3072) (h0 : 0 ≤ i) (h6 : i + 6 ≤ (L : Int)) (hG : iG S) (ih : ∀ S', iG S' → aW X b L xs 1822 [(0, qo (.ref b)), (1, qr 0), (2, qr 70), (3, qi i)] [] S') : aW X b L xs 533 [(0, qo (.ref b)), (1, qr 0), (2, qr 70), (3, qi i)] [] S := by
  obtain ⟨r, S1, S2, e1, e2, h2⟩ := g_ship (a_R (xs (i + 1).toNat)) (a_R (xs (i + 2).toNat)) S hG
  refine a_aloadR dL_law_533 rfl rfl ?_
  refine a_arg hb dL_law_534 dL_law_535 dL_law_536 dL_law_537 dL_law_538 rfl rfl rfl rfl rfl rfl rfl (by omega) (by omega) ?_
  refine a_arg hb dL_law_539 dL_law_540 dL_law_541 dL_law_542 dL_law_543 rfl rfl rfl rfl rfl rfl rfl (by omega) (by omega) ?_
  refine a_call (o := (r, S1)) (as := [qi (xs (i + 1).toNat).toInt, qi (xs (i + 2).toNat).toInt]) dL_law_544 ml_L_52 rfl rfl (hL 0 (by decide)) sh_0 rfl rfl (Nat.le_of_ble_eq_true rfl) (Nat.le_of_ble_eq_true rfl) (fun Q' hQ' => C_ship_ok hL 0 _ _ _ (r, S1) e1 Q' hQ') rfl ?_
  refine a_aloadR dL_law_547 rfl rfl ?_
  refine a_arg hb dL_law_548 dL_law_549 dL_law_550 dL_law_551 dL_law_552 rfl rfl rfl rfl rfl rfl rfl (by omega) (by omega) ?_
  refine a_arg hb dL_law_553 dL_law_554 dL_law_555 dL_law_556 dL_law_557 rfl rfl rfl rfl rfl rfl rfl (by omega) (by omega) ?_
  refine a_call (o := (r, S2)) (as := [qi (xs (i + 1).toNat).toInt, qi (xs (i + 2).toNat).toInt]) dL_law_558 ml_L_55 rfl rfl (hL 70 (by decide)) sh_70 rfl rfl (Nat.le_of_ble_eq_true rfl) (Nat.le_of_ble_eq_true rfl) (fun Q' hQ' => M_ship_ok hL 0 _ _ _ (r, S2) e2 Q' hQ') rfl ?_
  exact a_icmp_eq dL_law_561 (by decide) rfl (ih S2 h2)
set_option maxRecDepth 20000 in
theorem law_letter (hL : ∀ c, c < 93 → c ∈ qLs X) (hb : L ≤ 3072) (h0 : 0 ≤ i) (h6 : i + 6 ≤ (L : Int)) (hG : iG S) (ih : ∀ S', iG S' → aW X b L xs 1822 [(0, qo (.ref b)), (1, qr 0), (2, qr 70), (3, qi i)] [] S') : aW X b L xs 566 [(0, qo (.ref b)), (1, qr 0), (2, qr 70), (3, qi i)] [] S := by
  obtain ⟨r, S1, S2, e1, e2, h2⟩ := g_letter (a_R (xs (i + 1).toNat)) (a_R (xs (i + 2).toNat)) S hG
  refine a_aloadR dL_law_566 rfl rfl ?_
  refine a_arg hb dL_law_567 dL_law_568 dL_law_569 dL_law_570 dL_law_571 rfl rfl rfl rfl rfl rfl rfl (by omega) (by omega) ?_
  refine a_arg hb dL_law_572 dL_law_573 dL_law_574 dL_law_575 dL_law_576 rfl rfl rfl rfl rfl rfl rfl (by omega) (by omega) ?_
  refine a_call (o := (r, S1)) (as := [qi (xs (i + 1).toNat).toInt, qi (xs (i + 2).toNat).toInt]) dL_law_577 ml_L_56 rfl rfl (hL 0 (by decide)) sh_0 rfl rfl (Nat.le_of_ble_eq_true rfl) (Nat.le_of_ble_eq_true rfl) (fun Q' hQ' => C_letter_ok hL 0 _ _ _ (r, S1) e1 Q' hQ') rfl ?_
  refine a_aloadR dL_law_580 rfl rfl ?_
  refine a_arg hb dL_law_581 dL_law_582 dL_law_583 dL_law_584 dL_law_585 rfl rfl rfl rfl rfl rfl rfl (by omega) (by omega) ?_
  refine a_arg hb dL_law_586 dL_law_587 dL_law_588 dL_law_589 dL_law_590 rfl rfl rfl rfl rfl rfl rfl (by omega) (by omega) ?_
  refine a_call (o := (r, S2)) (as := [qi (xs (i + 1).toNat).toInt, qi (xs (i + 2).toNat).toInt]) dL_law_591 ml_L_59 rfl rfl (hL 70 (by decide)) sh_70 rfl rfl (Nat.le_of_ble_eq_true rfl) (Nat.le_of_ble_eq_true rfl) (fun Q' hQ' => M_letter_ok hL 0 _ _ _ (r, S2) e2 Q' hQ') rfl ?_
  exact a_icmp_eq dL_law_594 (by decide) rfl (ih S2 h2)
set_option maxRecDepth 20000 in
theorem law_moves (hL : ∀ c, c < 93 → c ∈ qLs X) (hb : L ≤ 3072) (h0 : 0 ≤ i) (h6 : i + 6 ≤ (L : Int)) (hG : iG S) (ih : ∀ S', iG S' → aW X b L xs 1822 [(0, qo (.ref b)), (1, qr 0), (2, qr 70), (3, qi i)] [] S') : aW X b L xs 599 [(0, qo (.ref b)), (1, qr 0), (2, qr 70), (3, qi i)] [] S := by
  obtain ⟨r, S1, S2, e1, e2, h2⟩ := g_moves (a_R (xs (i + 1).toNat)) S hG
  refine a_aloadR dL_law_599 rfl rfl ?_
  refine a_arg hb dL_law_600 dL_law_601 dL_law_602 dL_law_603 dL_law_604 rfl rfl rfl rfl rfl rfl rfl (by omega) (by omega) ?_
  refine a_call (o := (r, S1)) (as := [qi (xs (i + 1).toNat).toInt]) dL_law_605 ml_L_60 rfl rfl (hL 0 (by decide)) sh_0 rfl rfl (Nat.le_of_ble_eq_true rfl) (Nat.le_of_ble_eq_true rfl) (fun Q' hQ' => C_moves_ok hL 0 _ _ (r, S1) e1 Q' hQ') rfl ?_
  refine a_aloadR dL_law_608 rfl rfl ?_
  refine a_arg hb dL_law_609 dL_law_610 dL_law_611 dL_law_612 dL_law_613 rfl rfl rfl rfl rfl rfl rfl (by omega) (by omega) ?_
  refine a_call (o := (r, S2)) (as := [qi (xs (i + 1).toNat).toInt]) dL_law_614 ml_L_63 rfl rfl (hL 70 (by decide)) sh_70 rfl rfl (Nat.le_of_ble_eq_true rfl) (Nat.le_of_ble_eq_true rfl) (fun Q' hQ' => M_moves_ok hL 0 _ _ (r, S2) e2 Q' hQ') rfl ?_
  exact a_icmp_eq dL_law_617 (by decide) rfl (ih S2 h2)
set_option maxRecDepth 20000 in
theorem law_open (hL : ∀ c, c < 93 → c ∈ qLs X) (hb : L ≤ 3072) (h0 : 0 ≤ i) (h6 : i + 6 ≤ (L : Int)) (hG : iG S) (ih : ∀ S', iG S' → aW X b L xs 1822 [(0, qo (.ref b)), (1, qr 0), (2, qr 70), (3, qi i)] [] S') : aW X b L xs 622 [(0, qo (.ref b)), (1, qr 0), (2, qr 70), (3, qi i)] [] S := by
  obtain ⟨r, S1, S2, e1, e2, h2⟩ := g_open (a_R (xs (i + 1).toNat)) (a_R (xs (i + 2).toNat)) S hG
  refine a_aloadR dL_law_622 rfl rfl ?_
  refine a_arg hb dL_law_623 dL_law_624 dL_law_625 dL_law_626 dL_law_627 rfl rfl rfl rfl rfl rfl rfl (by omega) (by omega) ?_
  refine a_arg hb dL_law_628 dL_law_629 dL_law_630 dL_law_631 dL_law_632 rfl rfl rfl rfl rfl rfl rfl (by omega) (by omega) ?_
  refine a_call (o := (r, S1)) (as := [qi (xs (i + 1).toNat).toInt, qi (xs (i + 2).toNat).toInt]) dL_law_633 ml_L_64 rfl rfl (hL 0 (by decide)) sh_0 rfl rfl (Nat.le_of_ble_eq_true rfl) (Nat.le_of_ble_eq_true rfl) (fun Q' hQ' => C_open_ok hL 0 _ _ _ (r, S1) e1 Q' hQ') rfl ?_
  refine a_aloadR dL_law_636 rfl rfl ?_
  refine a_arg hb dL_law_637 dL_law_638 dL_law_639 dL_law_640 dL_law_641 rfl rfl rfl rfl rfl rfl rfl (by omega) (by omega) ?_
  refine a_arg hb dL_law_642 dL_law_643 dL_law_644 dL_law_645 dL_law_646 rfl rfl rfl rfl rfl rfl rfl (by omega) (by omega) ?_
  refine a_call (o := (r, S2)) (as := [qi (xs (i + 1).toNat).toInt, qi (xs (i + 2).toNat).toInt]) dL_law_647 ml_L_67 rfl rfl (hL 70 (by decide)) sh_70 rfl rfl (Nat.le_of_ble_eq_true rfl) (Nat.le_of_ble_eq_true rfl) (fun Q' hQ' => M_open_ok hL 0 _ _ _ (r, S2) e2 Q' hQ') rfl ?_
  exact a_icmp_eq dL_law_650 (by decide) rfl (ih S2 h2)
set_option maxRecDepth 20000 in
theorem law_next (hL : ∀ c, c < 93 → c ∈ qLs X) (hb : L ≤ 3072) (h0 : 0 ≤ i) (h6 : i + 6 ≤ (L : Int)) (hG : iG S) (ih : ∀ S', iG S' → aW X b L xs 1822 [(0, qo (.ref b)), (1, qr 0), (2, qr 70), (3, qi i)] [] S') : aW X b L xs 655 [(0, qo (.ref b)), (1, qr 0), (2, qr 70), (3, qi i)] [] S := by
  obtain ⟨r, S1, S2, e1, e2, h2⟩ := g_next (a_R (xs (i + 1).toNat)) (a_R (xs (i + 2).toNat)) S hG
  refine a_aloadR dL_law_655 rfl rfl ?_
  refine a_arg hb dL_law_656 dL_law_657 dL_law_658 dL_law_659 dL_law_660 rfl rfl rfl rfl rfl rfl rfl (by omega) (by omega) ?_
  refine a_arg hb dL_law_661 dL_law_662 dL_law_663 dL_law_664 dL_law_665 rfl rfl rfl rfl rfl rfl rfl (by omega) (by omega) ?_
  refine a_call (o := (r, S1)) (as := [qi (xs (i + 1).toNat).toInt, qi (xs (i + 2).toNat).toInt]) dL_law_666 ml_L_68 rfl rfl (hL 0 (by decide)) sh_0 rfl rfl (Nat.le_of_ble_eq_true rfl) (Nat.le_of_ble_eq_true rfl) (fun Q' hQ' => C_next_ok hL 0 _ _ _ (r, S1) e1 Q' hQ') rfl ?_
  refine a_aloadR dL_law_669 rfl rfl ?_
  refine a_arg hb dL_law_670 dL_law_671 dL_law_672 dL_law_673 dL_law_674 rfl rfl rfl rfl rfl rfl rfl (by omega) (by omega) ?_
  refine a_arg hb dL_law_675 dL_law_676 dL_law_677 dL_law_678 dL_law_679 rfl rfl rfl rfl rfl rfl rfl (by omega) (by omega) ?_
  refine a_call (o := (r, S2)) (as := [qi (xs (i + 1).toNat).toInt, qi (xs (i + 2).toNat).toInt]) dL_law_680 ml_L_71 rfl rfl (hL 70 (by decide)) sh_70 rfl rfl (Nat.le_of_ble_eq_true rfl) (Nat.le_of_ble_eq_true rfl) (fun Q' hQ' => M_next_ok hL 0 _ _ _ (r, S2) e2 Q' hQ') rfl ?_
  exact a_icmp_eq dL_law_683 (by decide) rfl (ih S2 h2)
set_option maxRecDepth 20000 in
theorem law_shut (hL : ∀ c, c < 93 → c ∈ qLs X) (hb : L ≤ 3072) (h0 : 0 ≤ i) (h6 : i + 6 ≤ (L : Int)) (hG : iG S) (ih : ∀ S', iG S' → aW X b L xs 1822 [(0, qo (.ref b)), (1, qr 0), (2, qr 70), (3, qi i)] [] S') : aW X b L xs 688 [(0, qo (.ref b)), (1, qr 0), (2, qr 70), (3, qi i)] [] S := by
  obtain ⟨r, S1, S2, e1, e2, h2⟩ := g_shut (a_R (xs (i + 1).toNat)) (a_R (xs (i + 2).toNat)) S hG
  refine a_aloadR dL_law_688 rfl rfl ?_
  refine a_arg hb dL_law_689 dL_law_690 dL_law_691 dL_law_692 dL_law_693 rfl rfl rfl rfl rfl rfl rfl (by omega) (by omega) ?_
  refine a_arg hb dL_law_694 dL_law_695 dL_law_696 dL_law_697 dL_law_698 rfl rfl rfl rfl rfl rfl rfl (by omega) (by omega) ?_
  refine a_call (o := (r, S1)) (as := [qi (xs (i + 1).toNat).toInt, qi (xs (i + 2).toNat).toInt]) dL_law_699 ml_L_72 rfl rfl (hL 0 (by decide)) sh_0 rfl rfl (Nat.le_of_ble_eq_true rfl) (Nat.le_of_ble_eq_true rfl) (fun Q' hQ' => C_shut_ok hL 0 _ _ _ (r, S1) e1 Q' hQ') rfl ?_
  refine a_aloadR dL_law_702 rfl rfl ?_
  refine a_arg hb dL_law_703 dL_law_704 dL_law_705 dL_law_706 dL_law_707 rfl rfl rfl rfl rfl rfl rfl (by omega) (by omega) ?_
  refine a_arg hb dL_law_708 dL_law_709 dL_law_710 dL_law_711 dL_law_712 rfl rfl rfl rfl rfl rfl rfl (by omega) (by omega) ?_
  refine a_call (o := (r, S2)) (as := [qi (xs (i + 1).toNat).toInt, qi (xs (i + 2).toNat).toInt]) dL_law_713 ml_L_75 rfl rfl (hL 70 (by decide)) sh_70 rfl rfl (Nat.le_of_ble_eq_true rfl) (Nat.le_of_ble_eq_true rfl) (fun Q' hQ' => M_shut_ok hL 0 _ _ _ (r, S2) e2 Q' hQ') rfl ?_
  exact a_icmp_eq dL_law_716 (by decide) rfl (ih S2 h2)
set_option maxRecDepth 20000 in
theorem law_tide (hL : ∀ c, c < 93 → c ∈ qLs X) (hb : L ≤ 3072) (h0 : 0 ≤ i) (h6 : i + 6 ≤ (L : Int)) (hG : iG S) (ih : ∀ S', iG S' → aW X b L xs 1822 [(0, qo (.ref b)), (1, qr 0), (2, qr 70), (3, qi i)] [] S') : aW X b L xs 721 [(0, qo (.ref b)), (1, qr 0), (2, qr 70), (3, qi i)] [] S := by
  obtain ⟨r, S1, S2, e1, e2, h2⟩ := g_tide (a_R (xs (i + 1).toNat)) (a_R (xs (i + 2).toNat)) (a_R (xs (i + 3).toNat)) S hG
  refine a_aloadR dL_law_721 rfl rfl ?_
  refine a_arg hb dL_law_722 dL_law_723 dL_law_724 dL_law_725 dL_law_726 rfl rfl rfl rfl rfl rfl rfl (by omega) (by omega) ?_
  refine a_arg hb dL_law_727 dL_law_728 dL_law_729 dL_law_730 dL_law_731 rfl rfl rfl rfl rfl rfl rfl (by omega) (by omega) ?_
  refine a_arg hb dL_law_732 dL_law_733 dL_law_734 dL_law_735 dL_law_736 rfl rfl rfl rfl rfl rfl rfl (by omega) (by omega) ?_
  refine a_call (o := (r, S1)) (as := [qi (xs (i + 1).toNat).toInt, qi (xs (i + 2).toNat).toInt, qi (xs (i + 3).toNat).toInt]) dL_law_737 ml_L_76 rfl rfl (hL 0 (by decide)) sh_0 rfl rfl (Nat.le_of_ble_eq_true rfl) (Nat.le_of_ble_eq_true rfl) (fun Q' hQ' => C_tide_ok hL 0 _ _ _ _ (r, S1) e1 Q' hQ') rfl ?_
  refine a_aloadR dL_law_740 rfl rfl ?_
  refine a_arg hb dL_law_741 dL_law_742 dL_law_743 dL_law_744 dL_law_745 rfl rfl rfl rfl rfl rfl rfl (by omega) (by omega) ?_
  refine a_arg hb dL_law_746 dL_law_747 dL_law_748 dL_law_749 dL_law_750 rfl rfl rfl rfl rfl rfl rfl (by omega) (by omega) ?_
  refine a_arg hb dL_law_751 dL_law_752 dL_law_753 dL_law_754 dL_law_755 rfl rfl rfl rfl rfl rfl rfl (by omega) (by omega) ?_
  refine a_call (o := (r, S2)) (as := [qi (xs (i + 1).toNat).toInt, qi (xs (i + 2).toNat).toInt, qi (xs (i + 3).toNat).toInt]) dL_law_756 ml_L_80 rfl rfl (hL 70 (by decide)) sh_70 rfl rfl (Nat.le_of_ble_eq_true rfl) (Nat.le_of_ble_eq_true rfl) (fun Q' hQ' => M_tide_ok hL 0 _ _ _ _ (r, S2) e2 Q' hQ') rfl ?_
  exact a_icmp_eq dL_law_759 (by decide) rfl (ih S2 h2)
set_option maxRecDepth 20000 in
theorem law_breaks (hL : ∀ c, c < 93 → c ∈ qLs X) (hb : L ≤ 3072) (h0 : 0 ≤ i) (h6 : i + 6 ≤ (L : Int)) (hG : iG S) (ih : ∀ S', iG S' → aW X b L xs 1822 [(0, qo (.ref b)), (1, qr 0), (2, qr 70), (3, qi i)] [] S') : aW X b L xs 764 [(0, qo (.ref b)), (1, qr 0), (2, qr 70), (3, qi i)] [] S := by
  obtain ⟨r, S1, S2, e1, e2, h2⟩ := g_breaks (a_R (xs (i + 1).toNat)) (a_R (xs (i + 2).toNat)) (a_R (xs (i + 3).toNat)) (a_R (xs (i + 4).toNat)) S hG
  refine a_aloadR dL_law_764 rfl rfl ?_
  refine a_arg hb dL_law_765 dL_law_766 dL_law_767 dL_law_768 dL_law_769 rfl rfl rfl rfl rfl rfl rfl (by omega) (by omega) ?_
  refine a_arg hb dL_law_770 dL_law_771 dL_law_772 dL_law_773 dL_law_774 rfl rfl rfl rfl rfl rfl rfl (by omega) (by omega) ?_
  refine a_arg hb dL_law_775 dL_law_776 dL_law_777 dL_law_778 dL_law_779 rfl rfl rfl rfl rfl rfl rfl (by omega) (by omega) ?_
  refine a_arg hb dL_law_780 dL_law_781 dL_law_782 dL_law_783 dL_law_784 rfl rfl rfl rfl rfl rfl rfl (by omega) (by omega) ?_
  refine a_call (o := (r, S1)) (as := [qi (xs (i + 1).toNat).toInt, qi (xs (i + 2).toNat).toInt, qi (xs (i + 3).toNat).toInt, qi (xs (i + 4).toNat).toInt]) dL_law_785 ml_L_81 rfl rfl (hL 0 (by decide)) sh_0 rfl rfl (Nat.le_of_ble_eq_true rfl) (Nat.le_of_ble_eq_true rfl) (fun Q' hQ' => C_breaks_ok hL 0 _ _ _ _ _ (r, S1) e1 Q' hQ') rfl ?_
  refine a_aloadR dL_law_788 rfl rfl ?_
  refine a_arg hb dL_law_789 dL_law_790 dL_law_791 dL_law_792 dL_law_793 rfl rfl rfl rfl rfl rfl rfl (by omega) (by omega) ?_
  refine a_arg hb dL_law_794 dL_law_795 dL_law_796 dL_law_797 dL_law_798 rfl rfl rfl rfl rfl rfl rfl (by omega) (by omega) ?_
  refine a_arg hb dL_law_799 dL_law_800 dL_law_801 dL_law_802 dL_law_803 rfl rfl rfl rfl rfl rfl rfl (by omega) (by omega) ?_
  refine a_arg hb dL_law_804 dL_law_805 dL_law_806 dL_law_807 dL_law_808 rfl rfl rfl rfl rfl rfl rfl (by omega) (by omega) ?_
  refine a_call (o := (r, S2)) (as := [qi (xs (i + 1).toNat).toInt, qi (xs (i + 2).toNat).toInt, qi (xs (i + 3).toNat).toInt, qi (xs (i + 4).toNat).toInt]) dL_law_809 ml_L_85 rfl rfl (hL 70 (by decide)) sh_70 rfl rfl (Nat.le_of_ble_eq_true rfl) (Nat.le_of_ble_eq_true rfl) (fun Q' hQ' => M_breaks_ok hL 0 _ _ _ _ _ (r, S2) e2 Q' hQ') rfl ?_
  exact a_icmp_eq dL_law_812 (by decide) rfl (ih S2 h2)
set_option maxRecDepth 20000 in
theorem law_inWay (hL : ∀ c, c < 93 → c ∈ qLs X) (hb : L ≤ 3072) (h0 : 0 ≤ i) (h6 : i + 6 ≤ (L : Int)) (hG : iG S) (ih : ∀ S', iG S' → aW X b L xs 1822 [(0, qo (.ref b)), (1, qr 0), (2, qr 70), (3, qi i)] [] S') : aW X b L xs 817 [(0, qo (.ref b)), (1, qr 0), (2, qr 70), (3, qi i)] [] S := by
  obtain ⟨r, S1, S2, e1, e2, h2⟩ := g_inWay (a_R (xs (i + 1).toNat)) (a_R (xs (i + 2).toNat)) (a_R (xs (i + 3).toNat)) (a_R (xs (i + 4).toNat)) S hG
  refine a_aloadR dL_law_817 rfl rfl ?_
  refine a_arg hb dL_law_818 dL_law_819 dL_law_820 dL_law_821 dL_law_822 rfl rfl rfl rfl rfl rfl rfl (by omega) (by omega) ?_
  refine a_arg hb dL_law_823 dL_law_824 dL_law_825 dL_law_826 dL_law_827 rfl rfl rfl rfl rfl rfl rfl (by omega) (by omega) ?_
  refine a_arg hb dL_law_828 dL_law_829 dL_law_830 dL_law_831 dL_law_832 rfl rfl rfl rfl rfl rfl rfl (by omega) (by omega) ?_
  refine a_arg hb dL_law_833 dL_law_834 dL_law_835 dL_law_836 dL_law_837 rfl rfl rfl rfl rfl rfl rfl (by omega) (by omega) ?_
  refine a_call (o := (r, S1)) (as := [qi (xs (i + 1).toNat).toInt, qi (xs (i + 2).toNat).toInt, qi (xs (i + 3).toNat).toInt, qi (xs (i + 4).toNat).toInt]) dL_law_838 ml_L_86 rfl rfl (hL 0 (by decide)) sh_0 rfl rfl (Nat.le_of_ble_eq_true rfl) (Nat.le_of_ble_eq_true rfl) (fun Q' hQ' => C_inWay_ok hL 0 _ _ _ _ _ (r, S1) e1 Q' hQ') rfl ?_
  refine a_aloadR dL_law_841 rfl rfl ?_
  refine a_arg hb dL_law_842 dL_law_843 dL_law_844 dL_law_845 dL_law_846 rfl rfl rfl rfl rfl rfl rfl (by omega) (by omega) ?_
  refine a_arg hb dL_law_847 dL_law_848 dL_law_849 dL_law_850 dL_law_851 rfl rfl rfl rfl rfl rfl rfl (by omega) (by omega) ?_
  refine a_arg hb dL_law_852 dL_law_853 dL_law_854 dL_law_855 dL_law_856 rfl rfl rfl rfl rfl rfl rfl (by omega) (by omega) ?_
  refine a_arg hb dL_law_857 dL_law_858 dL_law_859 dL_law_860 dL_law_861 rfl rfl rfl rfl rfl rfl rfl (by omega) (by omega) ?_
  refine a_call (o := (r, S2)) (as := [qi (xs (i + 1).toNat).toInt, qi (xs (i + 2).toNat).toInt, qi (xs (i + 3).toNat).toInt, qi (xs (i + 4).toNat).toInt]) dL_law_862 ml_L_89 rfl rfl (hL 70 (by decide)) sh_70 rfl rfl (Nat.le_of_ble_eq_true rfl) (Nat.le_of_ble_eq_true rfl) (fun Q' hQ' => M_inWay_ok hL 0 _ _ _ _ _ (r, S2) e2 Q' hQ') rfl ?_
  exact a_icmp_eq dL_law_865 (by decide) rfl (ih S2 h2)
set_option maxRecDepth 20000 in
theorem law_earliest (hL : ∀ c, c < 93 → c ∈ qLs X) (hb : L ≤ 3072) (h0 : 0 ≤ i) (h6 : i + 6 ≤ (L : Int)) (hG : iG S) (ih : ∀ S', iG S' → aW X b L xs 1822 [(0, qo (.ref b)), (1, qr 0), (2, qr 70), (3, qi i)] [] S') : aW X b L xs 870 [(0, qo (.ref b)), (1, qr 0), (2, qr 70), (3, qi i)] [] S := by
  obtain ⟨r, S1, S2, e1, e2, h2⟩ := g_earliest (a_R (xs (i + 1).toNat)) (a_R (xs (i + 2).toNat)) (a_R (xs (i + 3).toNat)) S hG
  refine a_aloadR dL_law_870 rfl rfl ?_
  refine a_arg hb dL_law_871 dL_law_872 dL_law_873 dL_law_874 dL_law_875 rfl rfl rfl rfl rfl rfl rfl (by omega) (by omega) ?_
  refine a_arg hb dL_law_876 dL_law_877 dL_law_878 dL_law_879 dL_law_880 rfl rfl rfl rfl rfl rfl rfl (by omega) (by omega) ?_
  refine a_arg hb dL_law_881 dL_law_882 dL_law_883 dL_law_884 dL_law_885 rfl rfl rfl rfl rfl rfl rfl (by omega) (by omega) ?_
  refine a_call (o := (r, S1)) (as := [qi (xs (i + 1).toNat).toInt, qi (xs (i + 2).toNat).toInt, qi (xs (i + 3).toNat).toInt]) dL_law_886 ml_L_90 rfl rfl (hL 0 (by decide)) sh_0 rfl rfl (Nat.le_of_ble_eq_true rfl) (Nat.le_of_ble_eq_true rfl) (fun Q' hQ' => C_earliest_ok hL 0 _ _ _ _ (r, S1) e1 Q' hQ') rfl ?_
  refine a_aloadR dL_law_889 rfl rfl ?_
  refine a_arg hb dL_law_890 dL_law_891 dL_law_892 dL_law_893 dL_law_894 rfl rfl rfl rfl rfl rfl rfl (by omega) (by omega) ?_
  refine a_arg hb dL_law_895 dL_law_896 dL_law_897 dL_law_898 dL_law_899 rfl rfl rfl rfl rfl rfl rfl (by omega) (by omega) ?_
  refine a_arg hb dL_law_900 dL_law_901 dL_law_902 dL_law_903 dL_law_904 rfl rfl rfl rfl rfl rfl rfl (by omega) (by omega) ?_
  refine a_call (o := (r, S2)) (as := [qi (xs (i + 1).toNat).toInt, qi (xs (i + 2).toNat).toInt, qi (xs (i + 3).toNat).toInt]) dL_law_905 ml_L_93 rfl rfl (hL 70 (by decide)) sh_70 rfl rfl (Nat.le_of_ble_eq_true rfl) (Nat.le_of_ble_eq_true rfl) (fun Q' hQ' => M_earliest_ok hL 0 _ _ _ _ (r, S2) e2 Q' hQ') rfl ?_
  exact a_icmp_eq dL_law_908 (by decide) rfl (ih S2 h2)
set_option maxRecDepth 20000 in
theorem law_put (hL : ∀ c, c < 93 → c ∈ qLs X) (hb : L ≤ 3072) (h0 : 0 ≤ i) (h6 : i + 6 ≤ (L : Int)) (hG : iG S) (ih : ∀ S', iG S' → aW X b L xs 1822 [(0, qo (.ref b)), (1, qr 0), (2, qr 70), (3, qi i)] [] S') : aW X b L xs 913 [(0, qo (.ref b)), (1, qr 0), (2, qr 70), (3, qi i)] [] S := by
  obtain ⟨r, S1, S2, e1, e2, h2⟩ := g_put (a_R (xs (i + 1).toNat)) (a_R (xs (i + 2).toNat)) (a_R (xs (i + 3).toNat)) (a_R (xs (i + 4).toNat)) S hG
  refine a_aloadR dL_law_913 rfl rfl ?_
  refine a_arg hb dL_law_914 dL_law_915 dL_law_916 dL_law_917 dL_law_918 rfl rfl rfl rfl rfl rfl rfl (by omega) (by omega) ?_
  refine a_arg hb dL_law_919 dL_law_920 dL_law_921 dL_law_922 dL_law_923 rfl rfl rfl rfl rfl rfl rfl (by omega) (by omega) ?_
  refine a_arg hb dL_law_924 dL_law_925 dL_law_926 dL_law_927 dL_law_928 rfl rfl rfl rfl rfl rfl rfl (by omega) (by omega) ?_
  refine a_arg hb dL_law_929 dL_law_930 dL_law_931 dL_law_932 dL_law_933 rfl rfl rfl rfl rfl rfl rfl (by omega) (by omega) ?_
  refine a_call (o := (r, S1)) (as := [qi (xs (i + 1).toNat).toInt, qi (xs (i + 2).toNat).toInt, qi (xs (i + 3).toNat).toInt, qi (xs (i + 4).toNat).toInt]) dL_law_934 ml_L_94 rfl rfl (hL 0 (by decide)) sh_0 rfl rfl (Nat.le_of_ble_eq_true rfl) (Nat.le_of_ble_eq_true rfl) (fun Q' hQ' => C_put_ok hL 0 _ _ _ _ _ (r, S1) e1 Q' hQ') rfl ?_
  refine a_aloadR dL_law_937 rfl rfl ?_
  refine a_arg hb dL_law_938 dL_law_939 dL_law_940 dL_law_941 dL_law_942 rfl rfl rfl rfl rfl rfl rfl (by omega) (by omega) ?_
  refine a_arg hb dL_law_943 dL_law_944 dL_law_945 dL_law_946 dL_law_947 rfl rfl rfl rfl rfl rfl rfl (by omega) (by omega) ?_
  refine a_arg hb dL_law_948 dL_law_949 dL_law_950 dL_law_951 dL_law_952 rfl rfl rfl rfl rfl rfl rfl (by omega) (by omega) ?_
  refine a_arg hb dL_law_953 dL_law_954 dL_law_955 dL_law_956 dL_law_957 rfl rfl rfl rfl rfl rfl rfl (by omega) (by omega) ?_
  refine a_call (o := (r, S2)) (as := [qi (xs (i + 1).toNat).toInt, qi (xs (i + 2).toNat).toInt, qi (xs (i + 3).toNat).toInt, qi (xs (i + 4).toNat).toInt]) dL_law_958 ml_L_97 rfl rfl (hL 70 (by decide)) sh_70 rfl rfl (Nat.le_of_ble_eq_true rfl) (Nat.le_of_ble_eq_true rfl) (fun Q' hQ' => M_put_ok hL 0 _ _ _ _ _ (r, S2) e2 Q' hQ') rfl ?_
  exact a_icmp_eq dL_law_961 (by decide) rfl (ih S2 h2)
set_option maxRecDepth 20000 in
theorem law_itself (hL : ∀ c, c < 93 → c ∈ qLs X) (hb : L ≤ 3072) (h0 : 0 ≤ i) (h6 : i + 6 ≤ (L : Int)) (hG : iG S) (ih : ∀ S', iG S' → aW X b L xs 1822 [(0, qo (.ref b)), (1, qr 0), (2, qr 70), (3, qi i)] [] S') : aW X b L xs 966 [(0, qo (.ref b)), (1, qr 0), (2, qr 70), (3, qi i)] [] S := by
  obtain ⟨r, S1, S2, e1, e2, h2⟩ := g_itself (a_R (xs (i + 1).toNat)) S hG
  refine a_aloadR dL_law_966 rfl rfl ?_
  refine a_arg hb dL_law_967 dL_law_968 dL_law_969 dL_law_970 dL_law_971 rfl rfl rfl rfl rfl rfl rfl (by omega) (by omega) ?_
  refine a_call (o := (r, S1)) (as := [qi (xs (i + 1).toNat).toInt]) dL_law_972 ml_L_98 rfl rfl (hL 0 (by decide)) sh_0 rfl rfl (Nat.le_of_ble_eq_true rfl) (Nat.le_of_ble_eq_true rfl) (fun Q' hQ' => C_itself_ok hL 0 _ _ (r, S1) e1 Q' hQ') rfl ?_
  refine a_aloadR dL_law_975 rfl rfl ?_
  refine a_arg hb dL_law_976 dL_law_977 dL_law_978 dL_law_979 dL_law_980 rfl rfl rfl rfl rfl rfl rfl (by omega) (by omega) ?_
  refine a_call (o := (r, S2)) (as := [qi (xs (i + 1).toNat).toInt]) dL_law_981 ml_L_101 rfl rfl (hL 70 (by decide)) sh_70 rfl rfl (Nat.le_of_ble_eq_true rfl) (Nat.le_of_ble_eq_true rfl) (fun Q' hQ' => M_itself_ok hL 0 _ _ (r, S2) e2 Q' hQ') rfl ?_
  exact a_icmp_eq dL_law_984 (by decide) rfl (ih S2 h2)
set_option maxRecDepth 20000 in
theorem law_away (hL : ∀ c, c < 93 → c ∈ qLs X) (hb : L ≤ 3072) (h0 : 0 ≤ i) (h6 : i + 6 ≤ (L : Int)) (hG : iG S) (ih : ∀ S', iG S' → aW X b L xs 1822 [(0, qo (.ref b)), (1, qr 0), (2, qr 70), (3, qi i)] [] S') : aW X b L xs 989 [(0, qo (.ref b)), (1, qr 0), (2, qr 70), (3, qi i)] [] S := by
  obtain ⟨r, S1, S2, e1, e2, h2⟩ := g_away (a_R (xs (i + 1).toNat)) S hG
  refine a_aloadR dL_law_989 rfl rfl ?_
  refine a_arg hb dL_law_990 dL_law_991 dL_law_992 dL_law_993 dL_law_994 rfl rfl rfl rfl rfl rfl rfl (by omega) (by omega) ?_
  refine a_call (o := (r, S1)) (as := [qi (xs (i + 1).toNat).toInt]) dL_law_995 ml_L_102 rfl rfl (hL 0 (by decide)) sh_0 rfl rfl (Nat.le_of_ble_eq_true rfl) (Nat.le_of_ble_eq_true rfl) (fun Q' hQ' => C_away_ok hL 0 _ _ (r, S1) e1 Q' hQ') rfl ?_
  refine a_aloadR dL_law_998 rfl rfl ?_
  refine a_arg hb dL_law_999 dL_law_1000 dL_law_1001 dL_law_1002 dL_law_1003 rfl rfl rfl rfl rfl rfl rfl (by omega) (by omega) ?_
  refine a_call (o := (r, S2)) (as := [qi (xs (i + 1).toNat).toInt]) dL_law_1004 ml_L_106 rfl rfl (hL 70 (by decide)) sh_70 rfl rfl (Nat.le_of_ble_eq_true rfl) (Nat.le_of_ble_eq_true rfl) (fun Q' hQ' => M_away_ok hL 0 _ _ (r, S2) e2 Q' hQ') rfl ?_
  exact a_icmp_eq dL_law_1007 (by decide) rfl (ih S2 h2)
set_option maxRecDepth 20000 in
theorem law_move (hL : ∀ c, c < 93 → c ∈ qLs X) (hb : L ≤ 3072) (h0 : 0 ≤ i) (h6 : i + 6 ≤ (L : Int)) (hG : iG S) (ih : ∀ S', iG S' → aW X b L xs 1822 [(0, qo (.ref b)), (1, qr 0), (2, qr 70), (3, qi i)] [] S') : aW X b L xs 1012 [(0, qo (.ref b)), (1, qr 0), (2, qr 70), (3, qi i)] [] S := by
  obtain ⟨r, S1, S2, e1, e2, h2⟩ := g_move (a_R (xs (i + 1).toNat)) (a_R (xs (i + 2).toNat)) (a_R (xs (i + 3).toNat)) S hG
  refine a_aloadR dL_law_1012 rfl rfl ?_
  refine a_arg hb dL_law_1013 dL_law_1014 dL_law_1015 dL_law_1016 dL_law_1017 rfl rfl rfl rfl rfl rfl rfl (by omega) (by omega) ?_
  refine a_arg hb dL_law_1018 dL_law_1019 dL_law_1020 dL_law_1021 dL_law_1022 rfl rfl rfl rfl rfl rfl rfl (by omega) (by omega) ?_
  refine a_arg hb dL_law_1023 dL_law_1024 dL_law_1025 dL_law_1026 dL_law_1027 rfl rfl rfl rfl rfl rfl rfl (by omega) (by omega) ?_
  refine a_call (o := (r, S1)) (as := [qi (xs (i + 1).toNat).toInt, qi (xs (i + 2).toNat).toInt, qi (xs (i + 3).toNat).toInt]) dL_law_1028 ml_L_107 rfl rfl (hL 0 (by decide)) sh_0 rfl rfl (Nat.le_of_ble_eq_true rfl) (Nat.le_of_ble_eq_true rfl) (fun Q' hQ' => C_move_ok hL 0 _ _ _ _ (r, S1) e1 Q' hQ') rfl ?_
  refine a_aloadR dL_law_1031 rfl rfl ?_
  refine a_arg hb dL_law_1032 dL_law_1033 dL_law_1034 dL_law_1035 dL_law_1036 rfl rfl rfl rfl rfl rfl rfl (by omega) (by omega) ?_
  refine a_arg hb dL_law_1037 dL_law_1038 dL_law_1039 dL_law_1040 dL_law_1041 rfl rfl rfl rfl rfl rfl rfl (by omega) (by omega) ?_
  refine a_arg hb dL_law_1042 dL_law_1043 dL_law_1044 dL_law_1045 dL_law_1046 rfl rfl rfl rfl rfl rfl rfl (by omega) (by omega) ?_
  refine a_call (o := (r, S2)) (as := [qi (xs (i + 1).toNat).toInt, qi (xs (i + 2).toNat).toInt, qi (xs (i + 3).toNat).toInt]) dL_law_1047 ml_L_110 rfl rfl (hL 70 (by decide)) sh_70 rfl rfl (Nat.le_of_ble_eq_true rfl) (Nat.le_of_ble_eq_true rfl) (fun Q' hQ' => M_move_ok hL 0 _ _ _ _ (r, S2) e2 Q' hQ') rfl ?_
  exact a_icmp_eq dL_law_1050 (by decide) rfl (ih S2 h2)
set_option maxRecDepth 20000 in
theorem law_swap (hL : ∀ c, c < 93 → c ∈ qLs X) (hb : L ≤ 3072) (h0 : 0 ≤ i) (h6 : i + 6 ≤ (L : Int)) (hG : iG S) (ih : ∀ S', iG S' → aW X b L xs 1822 [(0, qo (.ref b)), (1, qr 0), (2, qr 70), (3, qi i)] [] S') : aW X b L xs 1055 [(0, qo (.ref b)), (1, qr 0), (2, qr 70), (3, qi i)] [] S := by
  obtain ⟨r, S1, S2, e1, e2, h2⟩ := g_swap (a_R (xs (i + 1).toNat)) (a_R (xs (i + 2).toNat)) S hG
  refine a_aloadR dL_law_1055 rfl rfl ?_
  refine a_arg hb dL_law_1056 dL_law_1057 dL_law_1058 dL_law_1059 dL_law_1060 rfl rfl rfl rfl rfl rfl rfl (by omega) (by omega) ?_
  refine a_arg hb dL_law_1061 dL_law_1062 dL_law_1063 dL_law_1064 dL_law_1065 rfl rfl rfl rfl rfl rfl rfl (by omega) (by omega) ?_
  refine a_call (o := (r, S1)) (as := [qi (xs (i + 1).toNat).toInt, qi (xs (i + 2).toNat).toInt]) dL_law_1066 ml_L_111 rfl rfl (hL 0 (by decide)) sh_0 rfl rfl (Nat.le_of_ble_eq_true rfl) (Nat.le_of_ble_eq_true rfl) (fun Q' hQ' => C_swap_ok hL 0 _ _ _ (r, S1) e1 Q' hQ') rfl ?_
  refine a_aloadR dL_law_1069 rfl rfl ?_
  refine a_arg hb dL_law_1070 dL_law_1071 dL_law_1072 dL_law_1073 dL_law_1074 rfl rfl rfl rfl rfl rfl rfl (by omega) (by omega) ?_
  refine a_arg hb dL_law_1075 dL_law_1076 dL_law_1077 dL_law_1078 dL_law_1079 rfl rfl rfl rfl rfl rfl rfl (by omega) (by omega) ?_
  refine a_call (o := (r, S2)) (as := [qi (xs (i + 1).toNat).toInt, qi (xs (i + 2).toNat).toInt]) dL_law_1080 ml_L_114 rfl rfl (hL 70 (by decide)) sh_70 rfl rfl (Nat.le_of_ble_eq_true rfl) (Nat.le_of_ble_eq_true rfl) (fun Q' hQ' => M_swap_ok hL 0 _ _ _ (r, S2) e2 Q' hQ') rfl ?_
  exact a_icmp_eq dL_law_1083 (by decide) rfl (ih S2 h2)
set_option maxRecDepth 20000 in
theorem law_squeeze (hL : ∀ c, c < 93 → c ∈ qLs X) (hb : L ≤ 3072) (h0 : 0 ≤ i) (h6 : i + 6 ≤ (L : Int)) (hG : iG S) (ih : ∀ S', iG S' → aW X b L xs 1822 [(0, qo (.ref b)), (1, qr 0), (2, qr 70), (3, qi i)] [] S') : aW X b L xs 1088 [(0, qo (.ref b)), (1, qr 0), (2, qr 70), (3, qi i)] [] S := by
  obtain ⟨r, S1, S2, e1, e2, h2⟩ := g_squeeze S hG
  refine a_aloadR dL_law_1088 rfl rfl ?_
  refine a_call (o := (r, S1)) (as := []) dL_law_1089 ml_L_115 rfl rfl (hL 0 (by decide)) sh_0 rfl rfl (Nat.le_of_ble_eq_true rfl) (Nat.le_of_ble_eq_true rfl) (fun Q' hQ' => C_squeeze_ok hL 0 _ (r, S1) e1 Q' hQ') rfl ?_
  refine a_aloadR dL_law_1092 rfl rfl ?_
  refine a_call (o := (r, S2)) (as := []) dL_law_1093 ml_L_119 rfl rfl (hL 70 (by decide)) sh_70 rfl rfl (Nat.le_of_ble_eq_true rfl) (Nat.le_of_ble_eq_true rfl) (fun Q' hQ' => M_squeeze_ok hL 0 _ (r, S2) e2 Q' hQ') rfl ?_
  exact a_icmp_eq dL_law_1096 (by decide) rfl (ih S2 h2)
set_option maxRecDepth 20000 in
theorem law_places (hL : ∀ c, c < 93 → c ∈ qLs X) (hb : L ≤ 3072) (h0 : 0 ≤ i) (h6 : i + 6 ≤ (L : Int)) (hG : iG S) (ih : ∀ S', iG S' → aW X b L xs 1822 [(0, qo (.ref b)), (1, qr 0), (2, qr 70), (3, qi i)] [] S') : aW X b L xs 1101 [(0, qo (.ref b)), (1, qr 0), (2, qr 70), (3, qi i)] [] S := by
  obtain ⟨r, S1, S2, e1, e2, h2⟩ := g_places (a_R (xs (i + 1).toNat)) (a_R (xs (i + 2).toNat)) (a_R (xs (i + 3).toNat)) (a_R (xs (i + 4).toNat)) S hG
  refine a_aloadR dL_law_1101 rfl rfl ?_
  refine a_arg hb dL_law_1102 dL_law_1103 dL_law_1104 dL_law_1105 dL_law_1106 rfl rfl rfl rfl rfl rfl rfl (by omega) (by omega) ?_
  refine a_arg hb dL_law_1107 dL_law_1108 dL_law_1109 dL_law_1110 dL_law_1111 rfl rfl rfl rfl rfl rfl rfl (by omega) (by omega) ?_
  refine a_arg hb dL_law_1112 dL_law_1113 dL_law_1114 dL_law_1115 dL_law_1116 rfl rfl rfl rfl rfl rfl rfl (by omega) (by omega) ?_
  refine a_arg hb dL_law_1117 dL_law_1118 dL_law_1119 dL_law_1120 dL_law_1121 rfl rfl rfl rfl rfl rfl rfl (by omega) (by omega) ?_
  refine a_call (o := (r, S1)) (as := [qi (xs (i + 1).toNat).toInt, qi (xs (i + 2).toNat).toInt, qi (xs (i + 3).toNat).toInt, qi (xs (i + 4).toNat).toInt]) dL_law_1122 ml_L_120 rfl rfl (hL 0 (by decide)) sh_0 rfl rfl (Nat.le_of_ble_eq_true rfl) (Nat.le_of_ble_eq_true rfl) (fun Q' hQ' => C_places_ok hL 0 _ _ _ _ _ (r, S1) e1 Q' hQ') rfl ?_
  refine a_aloadR dL_law_1125 rfl rfl ?_
  refine a_arg hb dL_law_1126 dL_law_1127 dL_law_1128 dL_law_1129 dL_law_1130 rfl rfl rfl rfl rfl rfl rfl (by omega) (by omega) ?_
  refine a_arg hb dL_law_1131 dL_law_1132 dL_law_1133 dL_law_1134 dL_law_1135 rfl rfl rfl rfl rfl rfl rfl (by omega) (by omega) ?_
  refine a_arg hb dL_law_1136 dL_law_1137 dL_law_1138 dL_law_1139 dL_law_1140 rfl rfl rfl rfl rfl rfl rfl (by omega) (by omega) ?_
  refine a_arg hb dL_law_1141 dL_law_1142 dL_law_1143 dL_law_1144 dL_law_1145 rfl rfl rfl rfl rfl rfl rfl (by omega) (by omega) ?_
  refine a_call (o := (r, S2)) (as := [qi (xs (i + 1).toNat).toInt, qi (xs (i + 2).toNat).toInt, qi (xs (i + 3).toNat).toInt, qi (xs (i + 4).toNat).toInt]) dL_law_1146 ml_L_123 rfl rfl (hL 70 (by decide)) sh_70 rfl rfl (Nat.le_of_ble_eq_true rfl) (Nat.le_of_ble_eq_true rfl) (fun Q' hQ' => M_places_ok hL 0 _ _ _ _ _ (r, S2) e2 Q' hQ') rfl ?_
  exact a_icmp_eq dL_law_1149 (by decide) rfl (ih S2 h2)
set_option maxRecDepth 20000 in
theorem law_hopeless (hL : ∀ c, c < 93 → c ∈ qLs X) (hb : L ≤ 3072) (h0 : 0 ≤ i) (h6 : i + 6 ≤ (L : Int)) (hG : iG S) (ih : ∀ S', iG S' → aW X b L xs 1822 [(0, qo (.ref b)), (1, qr 0), (2, qr 70), (3, qi i)] [] S') : aW X b L xs 1154 [(0, qo (.ref b)), (1, qr 0), (2, qr 70), (3, qi i)] [] S := by
  obtain ⟨r, S1, S2, e1, e2, h2⟩ := g_hopeless S hG
  refine a_aloadR dL_law_1154 rfl rfl ?_
  refine a_call (o := (r, S1)) (as := []) dL_law_1155 ml_L_124 rfl rfl (hL 0 (by decide)) sh_0 rfl rfl (Nat.le_of_ble_eq_true rfl) (Nat.le_of_ble_eq_true rfl) (fun Q' hQ' => C_hopeless_ok hL 0 _ (r, S1) e1 Q' hQ') rfl ?_
  refine a_aloadR dL_law_1158 rfl rfl ?_
  refine a_call (o := (r, S2)) (as := []) dL_law_1159 ml_L_127 rfl rfl (hL 70 (by decide)) sh_70 rfl rfl (Nat.le_of_ble_eq_true rfl) (Nat.le_of_ble_eq_true rfl) (fun Q' hQ' => M_hopeless_ok hL 0 _ (r, S2) e2 Q' hQ') rfl ?_
  exact a_icmp_eq dL_law_1162 (by decide) rfl (ih S2 h2)
set_option maxRecDepth 20000 in
theorem law_slack (hL : ∀ c, c < 93 → c ∈ qLs X) (hb : L ≤ 3072) (h0 : 0 ≤ i) (h6 : i + 6 ≤ (L : Int)) (hG : iG S) (ih : ∀ S', iG S' → aW X b L xs 1822 [(0, qo (.ref b)), (1, qr 0), (2, qr 70), (3, qi i)] [] S') : aW X b L xs 1167 [(0, qo (.ref b)), (1, qr 0), (2, qr 70), (3, qi i)] [] S := by
  obtain ⟨r, S1, S2, e1, e2, h2⟩ := g_slack (a_R (xs (i + 1).toNat)) S hG
  refine a_aloadR dL_law_1167 rfl rfl ?_
  refine a_arg hb dL_law_1168 dL_law_1169 dL_law_1170 dL_law_1171 dL_law_1172 rfl rfl rfl rfl rfl rfl rfl (by omega) (by omega) ?_
  refine a_call (o := (r, S1)) (as := [qi (xs (i + 1).toNat).toInt]) dL_law_1173 ml_L_128 rfl rfl (hL 0 (by decide)) sh_0 rfl rfl (Nat.le_of_ble_eq_true rfl) (Nat.le_of_ble_eq_true rfl) (fun Q' hQ' => C_slack_ok hL 0 _ _ (r, S1) e1 Q' hQ') rfl ?_
  refine a_aloadR dL_law_1176 rfl rfl ?_
  refine a_arg hb dL_law_1177 dL_law_1178 dL_law_1179 dL_law_1180 dL_law_1181 rfl rfl rfl rfl rfl rfl rfl (by omega) (by omega) ?_
  refine a_call (o := (r, S2)) (as := [qi (xs (i + 1).toNat).toInt]) dL_law_1182 ml_L_131 rfl rfl (hL 70 (by decide)) sh_70 rfl rfl (Nat.le_of_ble_eq_true rfl) (Nat.le_of_ble_eq_true rfl) (fun Q' hQ' => M_slack_ok hL 0 _ _ (r, S2) e2 Q' hQ') rfl ?_
  exact a_icmp_eq dL_law_1185 (by decide) rfl (ih S2 h2)
set_option maxRecDepth 20000 in
theorem law_along (hL : ∀ c, c < 93 → c ∈ qLs X) (hb : L ≤ 3072) (h0 : 0 ≤ i) (h6 : i + 6 ≤ (L : Int)) (hG : iG S) (ih : ∀ S', iG S' → aW X b L xs 1822 [(0, qo (.ref b)), (1, qr 0), (2, qr 70), (3, qi i)] [] S') : aW X b L xs 1190 [(0, qo (.ref b)), (1, qr 0), (2, qr 70), (3, qi i)] [] S := by
  obtain ⟨r, S1, S2, e1, e2, h2⟩ := g_along (a_R (xs (i + 1).toNat)) (a_R (xs (i + 2).toNat)) S hG
  refine a_aloadR dL_law_1190 rfl rfl ?_
  refine a_arg hb dL_law_1191 dL_law_1192 dL_law_1193 dL_law_1194 dL_law_1195 rfl rfl rfl rfl rfl rfl rfl (by omega) (by omega) ?_
  refine a_arg hb dL_law_1196 dL_law_1197 dL_law_1198 dL_law_1199 dL_law_1200 rfl rfl rfl rfl rfl rfl rfl (by omega) (by omega) ?_
  refine a_call (o := (r, S1)) (as := [qi (xs (i + 1).toNat).toInt, qi (xs (i + 2).toNat).toInt]) dL_law_1201 ml_L_132 rfl rfl (hL 0 (by decide)) sh_0 rfl rfl (Nat.le_of_ble_eq_true rfl) (Nat.le_of_ble_eq_true rfl) (fun Q' hQ' => C_along_ok hL 0 _ _ _ (r, S1) e1 Q' hQ') rfl ?_
  refine a_aloadR dL_law_1204 rfl rfl ?_
  refine a_arg hb dL_law_1205 dL_law_1206 dL_law_1207 dL_law_1208 dL_law_1209 rfl rfl rfl rfl rfl rfl rfl (by omega) (by omega) ?_
  refine a_arg hb dL_law_1210 dL_law_1211 dL_law_1212 dL_law_1213 dL_law_1214 rfl rfl rfl rfl rfl rfl rfl (by omega) (by omega) ?_
  refine a_call (o := (r, S2)) (as := [qi (xs (i + 1).toNat).toInt, qi (xs (i + 2).toNat).toInt]) dL_law_1215 ml_L_135 rfl rfl (hL 70 (by decide)) sh_70 rfl rfl (Nat.le_of_ble_eq_true rfl) (Nat.le_of_ble_eq_true rfl) (fun Q' hQ' => M_along_ok hL 0 _ _ _ (r, S2) e2 Q' hQ') rfl ?_
  exact a_icmp_eq dL_law_1218 (by decide) rfl (ih S2 h2)
set_option maxRecDepth 20000 in
theorem law_order (hL : ∀ c, c < 93 → c ∈ qLs X) (hb : L ≤ 3072) (h0 : 0 ≤ i) (h6 : i + 6 ≤ (L : Int)) (hG : iG S) (ih : ∀ S', iG S' → aW X b L xs 1822 [(0, qo (.ref b)), (1, qr 0), (2, qr 70), (3, qi i)] [] S') : aW X b L xs 1223 [(0, qo (.ref b)), (1, qr 0), (2, qr 70), (3, qi i)] [] S := by
  obtain ⟨r, S1, S2, e1, e2, h2⟩ := g_order (a_R (xs (i + 1).toNat)) (a_R (xs (i + 2).toNat)) S hG
  refine a_aloadR dL_law_1223 rfl rfl ?_
  refine a_arg hb dL_law_1224 dL_law_1225 dL_law_1226 dL_law_1227 dL_law_1228 rfl rfl rfl rfl rfl rfl rfl (by omega) (by omega) ?_
  refine a_arg hb dL_law_1229 dL_law_1230 dL_law_1231 dL_law_1232 dL_law_1233 rfl rfl rfl rfl rfl rfl rfl (by omega) (by omega) ?_
  refine a_call (o := (r, S1)) (as := [qi (xs (i + 1).toNat).toInt, qi (xs (i + 2).toNat).toInt]) dL_law_1234 ml_L_136 rfl rfl (hL 0 (by decide)) sh_0 rfl rfl (Nat.le_of_ble_eq_true rfl) (Nat.le_of_ble_eq_true rfl) (fun Q' hQ' => C_order_ok hL 0 _ _ _ (r, S1) e1 Q' hQ') rfl ?_
  refine a_aloadR dL_law_1237 rfl rfl ?_
  refine a_arg hb dL_law_1238 dL_law_1239 dL_law_1240 dL_law_1241 dL_law_1242 rfl rfl rfl rfl rfl rfl rfl (by omega) (by omega) ?_
  refine a_arg hb dL_law_1243 dL_law_1244 dL_law_1245 dL_law_1246 dL_law_1247 rfl rfl rfl rfl rfl rfl rfl (by omega) (by omega) ?_
  refine a_call (o := (r, S2)) (as := [qi (xs (i + 1).toNat).toInt, qi (xs (i + 2).toNat).toInt]) dL_law_1248 ml_L_139 rfl rfl (hL 70 (by decide)) sh_70 rfl rfl (Nat.le_of_ble_eq_true rfl) (Nat.le_of_ble_eq_true rfl) (fun Q' hQ' => M_order_ok hL 0 _ _ _ (r, S2) e2 Q' hQ') rfl ?_
  exact a_icmp_eq dL_law_1251 (by decide) rfl (ih S2 h2)
set_option maxRecDepth 20000 in
theorem law_all (hL : ∀ c, c < 93 → c ∈ qLs X) (hb : L ≤ 3072) (h0 : 0 ≤ i) (h6 : i + 6 ≤ (L : Int)) (hG : iG S) (ih : ∀ S', iG S' → aW X b L xs 1822 [(0, qo (.ref b)), (1, qr 0), (2, qr 70), (3, qi i)] [] S') : aW X b L xs 1256 [(0, qo (.ref b)), (1, qr 0), (2, qr 70), (3, qi i)] [] S := by
  obtain ⟨r, S1, S2, e1, e2, h2⟩ := g_all (a_R (xs (i + 1).toNat)) S hG
  refine a_aloadR dL_law_1256 rfl rfl ?_
  refine a_arg hb dL_law_1257 dL_law_1258 dL_law_1259 dL_law_1260 dL_law_1261 rfl rfl rfl rfl rfl rfl rfl (by omega) (by omega) ?_
  refine a_call (o := (r, S1)) (as := [qi (xs (i + 1).toNat).toInt]) dL_law_1262 ml_L_140 rfl rfl (hL 0 (by decide)) sh_0 rfl rfl (Nat.le_of_ble_eq_true rfl) (Nat.le_of_ble_eq_true rfl) (fun Q' hQ' => C_all_ok hL 0 _ _ (r, S1) e1 Q' hQ') rfl ?_
  refine a_aloadR dL_law_1265 rfl rfl ?_
  refine a_arg hb dL_law_1266 dL_law_1267 dL_law_1268 dL_law_1269 dL_law_1270 rfl rfl rfl rfl rfl rfl rfl (by omega) (by omega) ?_
  refine a_call (o := (r, S2)) (as := [qi (xs (i + 1).toNat).toInt]) dL_law_1271 ml_L_143 rfl rfl (hL 70 (by decide)) sh_70 rfl rfl (Nat.le_of_ble_eq_true rfl) (Nat.le_of_ble_eq_true rfl) (fun Q' hQ' => M_all_ok hL 0 _ _ (r, S2) e2 Q' hQ') rfl ?_
  exact a_icmp_eq dL_law_1274 (by decide) rfl (ih S2 h2)
set_option maxRecDepth 20000 in
theorem law_best (hL : ∀ c, c < 93 → c ∈ qLs X) (hb : L ≤ 3072) (h0 : 0 ≤ i) (h6 : i + 6 ≤ (L : Int)) (hG : iG S) (ih : ∀ S', iG S' → aW X b L xs 1822 [(0, qo (.ref b)), (1, qr 0), (2, qr 70), (3, qi i)] [] S') : aW X b L xs 1279 [(0, qo (.ref b)), (1, qr 0), (2, qr 70), (3, qi i)] [] S := by
  obtain ⟨r, S1, S2, e1, e2, h2⟩ := g_best (a_R (xs (i + 1).toNat)) S hG
  refine a_aloadR dL_law_1279 rfl rfl ?_
  refine a_arg hb dL_law_1280 dL_law_1281 dL_law_1282 dL_law_1283 dL_law_1284 rfl rfl rfl rfl rfl rfl rfl (by omega) (by omega) ?_
  refine a_call (o := (r, S1)) (as := [qi (xs (i + 1).toNat).toInt]) dL_law_1285 ml_L_144 rfl rfl (hL 0 (by decide)) sh_0 rfl rfl (Nat.le_of_ble_eq_true rfl) (Nat.le_of_ble_eq_true rfl) (fun Q' hQ' => C_best_ok hL 0 _ _ (r, S1) e1 Q' hQ') rfl ?_
  refine a_aloadR dL_law_1288 rfl rfl ?_
  refine a_arg hb dL_law_1289 dL_law_1290 dL_law_1291 dL_law_1292 dL_law_1293 rfl rfl rfl rfl rfl rfl rfl (by omega) (by omega) ?_
  refine a_call (o := (r, S2)) (as := [qi (xs (i + 1).toNat).toInt]) dL_law_1294 ml_L_147 rfl rfl (hL 70 (by decide)) sh_70 rfl rfl (Nat.le_of_ble_eq_true rfl) (Nat.le_of_ble_eq_true rfl) (fun Q' hQ' => M_best_ok hL 0 _ _ (r, S2) e2 Q' hQ') rfl ?_
  exact a_icmp_eq dL_law_1297 (by decide) rfl (ih S2 h2)
set_option maxRecDepth 20000 in
theorem law_four (hL : ∀ c, c < 93 → c ∈ qLs X) (hb : L ≤ 3072) (h0 : 0 ≤ i) (h6 : i + 6 ≤ (L : Int)) (hG : iG S) (ih : ∀ S', iG S' → aW X b L xs 1822 [(0, qo (.ref b)), (1, qr 0), (2, qr 70), (3, qi i)] [] S') : aW X b L xs 1302 [(0, qo (.ref b)), (1, qr 0), (2, qr 70), (3, qi i)] [] S := by
  obtain ⟨r, S1, S2, e1, e2, h2⟩ := g_four S hG
  refine a_aloadR dL_law_1302 rfl rfl ?_
  refine a_call (o := (r, S1)) (as := []) dL_law_1303 ml_L_148 rfl rfl (hL 0 (by decide)) sh_0 rfl rfl (Nat.le_of_ble_eq_true rfl) (Nat.le_of_ble_eq_true rfl) (fun Q' hQ' => C_four_ok hL 0 _ (r, S1) e1 Q' hQ') rfl ?_
  refine a_aloadR dL_law_1306 rfl rfl ?_
  refine a_call (o := (r, S2)) (as := []) dL_law_1307 ml_L_151 rfl rfl (hL 70 (by decide)) sh_70 rfl rfl (Nat.le_of_ble_eq_true rfl) (Nat.le_of_ble_eq_true rfl) (fun Q' hQ' => M_fourAll_ok hL 0 _ (r, S2) e2 Q' hQ') rfl ?_
  exact a_icmp_eq dL_law_1310 (by decide) rfl (ih S2 h2)
set_option maxRecDepth 20000 in
theorem law_at (hL : ∀ c, c < 93 → c ∈ qLs X) (hb : L ≤ 3072) (h0 : 0 ≤ i) (h6 : i + 6 ≤ (L : Int)) (hG : iG S) (ih : ∀ S', iG S' → aW X b L xs 1822 [(0, qo (.ref b)), (1, qr 0), (2, qr 70), (3, qi i)] [] S') : aW X b L xs 1315 [(0, qo (.ref b)), (1, qr 0), (2, qr 70), (3, qi i)] [] S := by
  obtain ⟨r, S1, S2, e1, e2, h2⟩ := g_at (a_R (xs (i + 1).toNat)) (a_R (xs (i + 2).toNat)) S hG
  refine a_aloadR dL_law_1315 rfl rfl ?_
  refine a_arg hb dL_law_1316 dL_law_1317 dL_law_1318 dL_law_1319 dL_law_1320 rfl rfl rfl rfl rfl rfl rfl (by omega) (by omega) ?_
  refine a_arg hb dL_law_1321 dL_law_1322 dL_law_1323 dL_law_1324 dL_law_1325 rfl rfl rfl rfl rfl rfl rfl (by omega) (by omega) ?_
  refine a_call (o := (r, S1)) (as := [qi (xs (i + 1).toNat).toInt, qi (xs (i + 2).toNat).toInt]) dL_law_1326 ml_L_152 rfl rfl (hL 0 (by decide)) sh_0 rfl rfl (Nat.le_of_ble_eq_true rfl) (Nat.le_of_ble_eq_true rfl) (fun Q' hQ' => C_at_ok hL 0 _ _ _ (r, S1) e1 Q' hQ') rfl ?_
  refine a_aloadR dL_law_1329 rfl rfl ?_
  refine a_arg hb dL_law_1330 dL_law_1331 dL_law_1332 dL_law_1333 dL_law_1334 rfl rfl rfl rfl rfl rfl rfl (by omega) (by omega) ?_
  refine a_arg hb dL_law_1335 dL_law_1336 dL_law_1337 dL_law_1338 dL_law_1339 rfl rfl rfl rfl rfl rfl rfl (by omega) (by omega) ?_
  refine a_call (o := (r, S2)) (as := [qi (xs (i + 1).toNat).toInt, qi (xs (i + 2).toNat).toInt]) dL_law_1340 ml_L_155 rfl rfl (hL 70 (by decide)) sh_70 rfl rfl (Nat.le_of_ble_eq_true rfl) (Nat.le_of_ble_eq_true rfl) (fun Q' hQ' => M_at_ok hL 0 _ _ _ (r, S2) e2 Q' hQ') rfl ?_
  exact a_icmp_eq dL_law_1343 (by decide) rfl (ih S2 h2)
set_option maxRecDepth 20000 in
theorem law_lies (hL : ∀ c, c < 93 → c ∈ qLs X) (hb : L ≤ 3072) (h0 : 0 ≤ i) (h6 : i + 6 ≤ (L : Int)) (hG : iG S) (ih : ∀ S', iG S' → aW X b L xs 1822 [(0, qo (.ref b)), (1, qr 0), (2, qr 70), (3, qi i)] [] S') : aW X b L xs 1348 [(0, qo (.ref b)), (1, qr 0), (2, qr 70), (3, qi i)] [] S := by
  obtain ⟨r, S1, S2, e1, e2, h2⟩ := g_lies (a_R (xs (i + 1).toNat)) (a_R (xs (i + 2).toNat)) S hG
  refine a_aloadR dL_law_1348 rfl rfl ?_
  refine a_arg hb dL_law_1349 dL_law_1350 dL_law_1351 dL_law_1352 dL_law_1353 rfl rfl rfl rfl rfl rfl rfl (by omega) (by omega) ?_
  refine a_arg hb dL_law_1354 dL_law_1355 dL_law_1356 dL_law_1357 dL_law_1358 rfl rfl rfl rfl rfl rfl rfl (by omega) (by omega) ?_
  refine a_call (o := (r, S1)) (as := [qi (xs (i + 1).toNat).toInt, qi (xs (i + 2).toNat).toInt]) dL_law_1359 ml_L_156 rfl rfl (hL 0 (by decide)) sh_0 rfl rfl (Nat.le_of_ble_eq_true rfl) (Nat.le_of_ble_eq_true rfl) (fun Q' hQ' => C_lies_ok hL 0 _ _ _ (r, S1) e1 Q' hQ') rfl ?_
  refine a_aloadR dL_law_1362 rfl rfl ?_
  refine a_arg hb dL_law_1363 dL_law_1364 dL_law_1365 dL_law_1366 dL_law_1367 rfl rfl rfl rfl rfl rfl rfl (by omega) (by omega) ?_
  refine a_arg hb dL_law_1368 dL_law_1369 dL_law_1370 dL_law_1371 dL_law_1372 rfl rfl rfl rfl rfl rfl rfl (by omega) (by omega) ?_
  refine a_call (o := (r, S2)) (as := [qi (xs (i + 1).toNat).toInt, qi (xs (i + 2).toNat).toInt]) dL_law_1373 ml_L_159 rfl rfl (hL 70 (by decide)) sh_70 rfl rfl (Nat.le_of_ble_eq_true rfl) (Nat.le_of_ble_eq_true rfl) (fun Q' hQ' => M_lies_ok hL 0 _ _ _ (r, S2) e2 Q' hQ') rfl ?_
  exact a_icmp_eq dL_law_1376 (by decide) rfl (ih S2 h2)
set_option maxRecDepth 20000 in
theorem law_free (hL : ∀ c, c < 93 → c ∈ qLs X) (hb : L ≤ 3072) (h0 : 0 ≤ i) (h6 : i + 6 ≤ (L : Int)) (hG : iG S) (ih : ∀ S', iG S' → aW X b L xs 1822 [(0, qo (.ref b)), (1, qr 0), (2, qr 70), (3, qi i)] [] S') : aW X b L xs 1381 [(0, qo (.ref b)), (1, qr 0), (2, qr 70), (3, qi i)] [] S := by
  obtain ⟨r, S1, S2, e1, e2, h2⟩ := g_free (a_R (xs (i + 1).toNat)) (a_R (xs (i + 2).toNat)) S hG
  refine a_aloadR dL_law_1381 rfl rfl ?_
  refine a_arg hb dL_law_1382 dL_law_1383 dL_law_1384 dL_law_1385 dL_law_1386 rfl rfl rfl rfl rfl rfl rfl (by omega) (by omega) ?_
  refine a_arg hb dL_law_1387 dL_law_1388 dL_law_1389 dL_law_1390 dL_law_1391 rfl rfl rfl rfl rfl rfl rfl (by omega) (by omega) ?_
  refine a_call (o := (r, S1)) (as := [qi (xs (i + 1).toNat).toInt, qi (xs (i + 2).toNat).toInt]) dL_law_1392 ml_L_160 rfl rfl (hL 0 (by decide)) sh_0 rfl rfl (Nat.le_of_ble_eq_true rfl) (Nat.le_of_ble_eq_true rfl) (fun Q' hQ' => C_free_ok hL 0 _ _ _ (r, S1) e1 Q' hQ') rfl ?_
  refine a_aloadR dL_law_1395 rfl rfl ?_
  refine a_arg hb dL_law_1396 dL_law_1397 dL_law_1398 dL_law_1399 dL_law_1400 rfl rfl rfl rfl rfl rfl rfl (by omega) (by omega) ?_
  refine a_arg hb dL_law_1401 dL_law_1402 dL_law_1403 dL_law_1404 dL_law_1405 rfl rfl rfl rfl rfl rfl rfl (by omega) (by omega) ?_
  refine a_call (o := (r, S2)) (as := [qi (xs (i + 1).toNat).toInt, qi (xs (i + 2).toNat).toInt]) dL_law_1406 ml_L_163 rfl rfl (hL 70 (by decide)) sh_70 rfl rfl (Nat.le_of_ble_eq_true rfl) (Nat.le_of_ble_eq_true rfl) (fun Q' hQ' => M_free_ok hL 0 _ _ _ (r, S2) e2 Q' hQ') rfl ?_
  exact a_icmp_eq dL_law_1409 (by decide) rfl (ih S2 h2)
set_option maxRecDepth 20000 in
theorem law_works (hL : ∀ c, c < 93 → c ∈ qLs X) (hb : L ≤ 3072) (h0 : 0 ≤ i) (h6 : i + 6 ≤ (L : Int)) (hG : iG S) (ih : ∀ S', iG S' → aW X b L xs 1822 [(0, qo (.ref b)), (1, qr 0), (2, qr 70), (3, qi i)] [] S') : aW X b L xs 1414 [(0, qo (.ref b)), (1, qr 0), (2, qr 70), (3, qi i)] [] S := by
  obtain ⟨r, S1, S2, e1, e2, h2⟩ := g_works (a_R (xs (i + 1).toNat)) (a_R (xs (i + 2).toNat)) S hG
  refine a_aloadR dL_law_1414 rfl rfl ?_
  refine a_arg hb dL_law_1415 dL_law_1416 dL_law_1417 dL_law_1418 dL_law_1419 rfl rfl rfl rfl rfl rfl rfl (by omega) (by omega) ?_
  refine a_arg hb dL_law_1420 dL_law_1421 dL_law_1422 dL_law_1423 dL_law_1424 rfl rfl rfl rfl rfl rfl rfl (by omega) (by omega) ?_
  refine a_call (o := (r, S1)) (as := [qi (xs (i + 1).toNat).toInt, qi (xs (i + 2).toNat).toInt]) dL_law_1425 ml_L_164 rfl rfl (hL 0 (by decide)) sh_0 rfl rfl (Nat.le_of_ble_eq_true rfl) (Nat.le_of_ble_eq_true rfl) (fun Q' hQ' => C_works_ok hL 0 _ _ _ (r, S1) e1 Q' hQ') rfl ?_
  refine a_aloadR dL_law_1428 rfl rfl ?_
  refine a_arg hb dL_law_1429 dL_law_1430 dL_law_1431 dL_law_1432 dL_law_1433 rfl rfl rfl rfl rfl rfl rfl (by omega) (by omega) ?_
  refine a_arg hb dL_law_1434 dL_law_1435 dL_law_1436 dL_law_1437 dL_law_1438 rfl rfl rfl rfl rfl rfl rfl (by omega) (by omega) ?_
  refine a_call (o := (r, S2)) (as := [qi (xs (i + 1).toNat).toInt, qi (xs (i + 2).toNat).toInt]) dL_law_1439 ml_L_167 rfl rfl (hL 70 (by decide)) sh_70 rfl rfl (Nat.le_of_ble_eq_true rfl) (Nat.le_of_ble_eq_true rfl) (fun Q' hQ' => M_works_ok hL 0 _ _ _ (r, S2) e2 Q' hQ') rfl ?_
  exact a_icmp_eq dL_law_1442 (by decide) rfl (ih S2 h2)
set_option maxRecDepth 20000 in
theorem law_hours (hL : ∀ c, c < 93 → c ∈ qLs X) (hb : L ≤ 3072) (h0 : 0 ≤ i) (h6 : i + 6 ≤ (L : Int)) (hG : iG S) (ih : ∀ S', iG S' → aW X b L xs 1822 [(0, qo (.ref b)), (1, qr 0), (2, qr 70), (3, qi i)] [] S') : aW X b L xs 1447 [(0, qo (.ref b)), (1, qr 0), (2, qr 70), (3, qi i)] [] S := by
  obtain ⟨r, S1, S2, e1, e2, h2⟩ := g_hours (a_R (xs (i + 1).toNat)) S hG
  refine a_aloadR dL_law_1447 rfl rfl ?_
  refine a_arg hb dL_law_1448 dL_law_1449 dL_law_1450 dL_law_1451 dL_law_1452 rfl rfl rfl rfl rfl rfl rfl (by omega) (by omega) ?_
  refine a_call (o := (r, S1)) (as := [qi (xs (i + 1).toNat).toInt]) dL_law_1453 ml_L_168 rfl rfl (hL 0 (by decide)) sh_0 rfl rfl (Nat.le_of_ble_eq_true rfl) (Nat.le_of_ble_eq_true rfl) (fun Q' hQ' => C_hours_ok hL 0 _ _ (r, S1) e1 Q' hQ') rfl ?_
  refine a_aloadR dL_law_1456 rfl rfl ?_
  refine a_arg hb dL_law_1457 dL_law_1458 dL_law_1459 dL_law_1460 dL_law_1461 rfl rfl rfl rfl rfl rfl rfl (by omega) (by omega) ?_
  refine a_call (o := (r, S2)) (as := [qi (xs (i + 1).toNat).toInt]) dL_law_1462 ml_L_171 rfl rfl (hL 70 (by decide)) sh_70 rfl rfl (Nat.le_of_ble_eq_true rfl) (Nat.le_of_ble_eq_true rfl) (fun Q' hQ' => M_hours_ok hL 0 _ _ (r, S2) e2 Q' hQ') rfl ?_
  exact a_icmp_eq dL_law_1465 (by decide) rfl (ih S2 h2)
set_option maxRecDepth 20000 in
theorem law_left (hL : ∀ c, c < 93 → c ∈ qLs X) (hb : L ≤ 3072) (h0 : 0 ≤ i) (h6 : i + 6 ≤ (L : Int)) (hG : iG S) (ih : ∀ S', iG S' → aW X b L xs 1822 [(0, qo (.ref b)), (1, qr 0), (2, qr 70), (3, qi i)] [] S') : aW X b L xs 1470 [(0, qo (.ref b)), (1, qr 0), (2, qr 70), (3, qi i)] [] S := by
  obtain ⟨r, S1, S2, e1, e2, h2⟩ := g_left (a_R (xs (i + 1).toNat)) (a_R (xs (i + 2).toNat)) S hG
  refine a_aloadR dL_law_1470 rfl rfl ?_
  refine a_arg hb dL_law_1471 dL_law_1472 dL_law_1473 dL_law_1474 dL_law_1475 rfl rfl rfl rfl rfl rfl rfl (by omega) (by omega) ?_
  refine a_arg hb dL_law_1476 dL_law_1477 dL_law_1478 dL_law_1479 dL_law_1480 rfl rfl rfl rfl rfl rfl rfl (by omega) (by omega) ?_
  refine a_call (o := (r, S1)) (as := [qi (xs (i + 1).toNat).toInt, qi (xs (i + 2).toNat).toInt]) dL_law_1481 ml_L_172 rfl rfl (hL 0 (by decide)) sh_0 rfl rfl (Nat.le_of_ble_eq_true rfl) (Nat.le_of_ble_eq_true rfl) (fun Q' hQ' => C_left_ok hL 0 _ _ _ (r, S1) e1 Q' hQ') rfl ?_
  refine a_aloadR dL_law_1484 rfl rfl ?_
  refine a_arg hb dL_law_1485 dL_law_1486 dL_law_1487 dL_law_1488 dL_law_1489 rfl rfl rfl rfl rfl rfl rfl (by omega) (by omega) ?_
  refine a_arg hb dL_law_1490 dL_law_1491 dL_law_1492 dL_law_1493 dL_law_1494 rfl rfl rfl rfl rfl rfl rfl (by omega) (by omega) ?_
  refine a_call (o := (r, S2)) (as := [qi (xs (i + 1).toNat).toInt, qi (xs (i + 2).toNat).toInt]) dL_law_1495 ml_L_175 rfl rfl (hL 70 (by decide)) sh_70 rfl rfl (Nat.le_of_ble_eq_true rfl) (Nat.le_of_ble_eq_true rfl) (fun Q' hQ' => M_left_ok hL 0 _ _ _ (r, S2) e2 Q' hQ') rfl ?_
  exact a_icmp_eq dL_law_1498 (by decide) rfl (ih S2 h2)
set_option maxRecDepth 20000 in
theorem law_shift (hL : ∀ c, c < 93 → c ∈ qLs X) (hb : L ≤ 3072) (h0 : 0 ≤ i) (h6 : i + 6 ≤ (L : Int)) (hG : iG S) (ih : ∀ S', iG S' → aW X b L xs 1822 [(0, qo (.ref b)), (1, qr 0), (2, qr 70), (3, qi i)] [] S') : aW X b L xs 1503 [(0, qo (.ref b)), (1, qr 0), (2, qr 70), (3, qi i)] [] S := by
  obtain ⟨r, S1, S2, e1, e2, h2⟩ := g_shift (a_R (xs (i + 1).toNat)) (a_R (xs (i + 2).toNat)) (a_R (xs (i + 3).toNat)) S hG
  refine a_aloadR dL_law_1503 rfl rfl ?_
  refine a_arg hb dL_law_1504 dL_law_1505 dL_law_1506 dL_law_1507 dL_law_1508 rfl rfl rfl rfl rfl rfl rfl (by omega) (by omega) ?_
  refine a_arg hb dL_law_1509 dL_law_1510 dL_law_1511 dL_law_1512 dL_law_1513 rfl rfl rfl rfl rfl rfl rfl (by omega) (by omega) ?_
  refine a_arg hb dL_law_1514 dL_law_1515 dL_law_1516 dL_law_1517 dL_law_1518 rfl rfl rfl rfl rfl rfl rfl (by omega) (by omega) ?_
  refine a_call (o := (r, S1)) (as := [qi (xs (i + 1).toNat).toInt, qi (xs (i + 2).toNat).toInt, qi (xs (i + 3).toNat).toInt]) dL_law_1519 ml_L_176 rfl rfl (hL 0 (by decide)) sh_0 rfl rfl (Nat.le_of_ble_eq_true rfl) (Nat.le_of_ble_eq_true rfl) (fun Q' hQ' => C_shift_ok hL 0 _ _ _ _ (r, S1) e1 Q' hQ') rfl ?_
  refine a_aloadR dL_law_1522 rfl rfl ?_
  refine a_arg hb dL_law_1523 dL_law_1524 dL_law_1525 dL_law_1526 dL_law_1527 rfl rfl rfl rfl rfl rfl rfl (by omega) (by omega) ?_
  refine a_arg hb dL_law_1528 dL_law_1529 dL_law_1530 dL_law_1531 dL_law_1532 rfl rfl rfl rfl rfl rfl rfl (by omega) (by omega) ?_
  refine a_arg hb dL_law_1533 dL_law_1534 dL_law_1535 dL_law_1536 dL_law_1537 rfl rfl rfl rfl rfl rfl rfl (by omega) (by omega) ?_
  refine a_call (o := (r, S2)) (as := [qi (xs (i + 1).toNat).toInt, qi (xs (i + 2).toNat).toInt, qi (xs (i + 3).toNat).toInt]) dL_law_1538 ml_L_179 rfl rfl (hL 70 (by decide)) sh_70 rfl rfl (Nat.le_of_ble_eq_true rfl) (Nat.le_of_ble_eq_true rfl) (fun Q' hQ' => M_shift_ok hL 0 _ _ _ _ (r, S2) e2 Q' hQ') rfl ?_
  exact a_icmp_eq dL_law_1541 (by decide) rfl (ih S2 h2)
set_option maxRecDepth 20000 in
theorem law_busiest (hL : ∀ c, c < 93 → c ∈ qLs X) (hb : L ≤ 3072) (h0 : 0 ≤ i) (h6 : i + 6 ≤ (L : Int)) (hG : iG S) (ih : ∀ S', iG S' → aW X b L xs 1822 [(0, qo (.ref b)), (1, qr 0), (2, qr 70), (3, qi i)] [] S') : aW X b L xs 1546 [(0, qo (.ref b)), (1, qr 0), (2, qr 70), (3, qi i)] [] S := by
  obtain ⟨r, S1, S2, e1, e2, h2⟩ := g_busiest (a_R (xs (i + 1).toNat)) S hG
  refine a_aloadR dL_law_1546 rfl rfl ?_
  refine a_arg hb dL_law_1547 dL_law_1548 dL_law_1549 dL_law_1550 dL_law_1551 rfl rfl rfl rfl rfl rfl rfl (by omega) (by omega) ?_
  refine a_call (o := (r, S1)) (as := [qi (xs (i + 1).toNat).toInt]) dL_law_1552 ml_L_180 rfl rfl (hL 0 (by decide)) sh_0 rfl rfl (Nat.le_of_ble_eq_true rfl) (Nat.le_of_ble_eq_true rfl) (fun Q' hQ' => C_busiest_ok hL 0 _ _ (r, S1) e1 Q' hQ') rfl ?_
  refine a_aloadR dL_law_1555 rfl rfl ?_
  refine a_arg hb dL_law_1556 dL_law_1557 dL_law_1558 dL_law_1559 dL_law_1560 rfl rfl rfl rfl rfl rfl rfl (by omega) (by omega) ?_
  refine a_call (o := (r, S2)) (as := [qi (xs (i + 1).toNat).toInt]) dL_law_1561 ml_L_183 rfl rfl (hL 70 (by decide)) sh_70 rfl rfl (Nat.le_of_ble_eq_true rfl) (Nat.le_of_ble_eq_true rfl) (fun Q' hQ' => M_busiest_ok hL 0 _ _ (r, S2) e2 Q' hQ') rfl ?_
  exact a_icmp_eq dL_law_1564 (by decide) rfl (ih S2 h2)
set_option maxRecDepth 20000 in
theorem law_without (hL : ∀ c, c < 93 → c ∈ qLs X) (hb : L ≤ 3072) (h0 : 0 ≤ i) (h6 : i + 6 ≤ (L : Int)) (hG : iG S) (ih : ∀ S', iG S' → aW X b L xs 1822 [(0, qo (.ref b)), (1, qr 0), (2, qr 70), (3, qi i)] [] S') : aW X b L xs 1569 [(0, qo (.ref b)), (1, qr 0), (2, qr 70), (3, qi i)] [] S := by
  obtain ⟨r, S1, S2, e1, e2, h2⟩ := g_without (a_R (xs (i + 1).toNat)) S hG
  refine a_aloadR dL_law_1569 rfl rfl ?_
  refine a_arg hb dL_law_1570 dL_law_1571 dL_law_1572 dL_law_1573 dL_law_1574 rfl rfl rfl rfl rfl rfl rfl (by omega) (by omega) ?_
  refine a_call (o := (r, S1)) (as := [qi (xs (i + 1).toNat).toInt]) dL_law_1575 ml_L_184 rfl rfl (hL 0 (by decide)) sh_0 rfl rfl (Nat.le_of_ble_eq_true rfl) (Nat.le_of_ble_eq_true rfl) (fun Q' hQ' => C_without_ok hL 0 _ _ (r, S1) e1 Q' hQ') rfl ?_
  refine a_aloadR dL_law_1578 rfl rfl ?_
  refine a_arg hb dL_law_1579 dL_law_1580 dL_law_1581 dL_law_1582 dL_law_1583 rfl rfl rfl rfl rfl rfl rfl (by omega) (by omega) ?_
  refine a_call (o := (r, S2)) (as := [qi (xs (i + 1).toNat).toInt]) dL_law_1584 ml_L_187 rfl rfl (hL 70 (by decide)) sh_70 rfl rfl (Nat.le_of_ble_eq_true rfl) (Nat.le_of_ble_eq_true rfl) (fun Q' hQ' => M_without_ok hL 0 _ _ (r, S2) e2 Q' hQ') rfl ?_
  exact a_icmp_eq dL_law_1587 (by decide) rfl (ih S2 h2)
set_option maxRecDepth 20000 in
theorem law_used (hL : ∀ c, c < 93 → c ∈ qLs X) (hb : L ≤ 3072) (h0 : 0 ≤ i) (h6 : i + 6 ≤ (L : Int)) (hG : iG S) (ih : ∀ S', iG S' → aW X b L xs 1822 [(0, qo (.ref b)), (1, qr 0), (2, qr 70), (3, qi i)] [] S') : aW X b L xs 1592 [(0, qo (.ref b)), (1, qr 0), (2, qr 70), (3, qi i)] [] S := by
  obtain ⟨r, S1, S2, e1, e2, h2⟩ := g_used (a_R (xs (i + 1).toNat)) S hG
  refine a_aloadR dL_law_1592 rfl rfl ?_
  refine a_arg hb dL_law_1593 dL_law_1594 dL_law_1595 dL_law_1596 dL_law_1597 rfl rfl rfl rfl rfl rfl rfl (by omega) (by omega) ?_
  refine a_call (o := (r, S1)) (as := [qi (xs (i + 1).toNat).toInt]) dL_law_1598 ml_L_188 rfl rfl (hL 0 (by decide)) sh_0 rfl rfl (Nat.le_of_ble_eq_true rfl) (Nat.le_of_ble_eq_true rfl) (fun Q' hQ' => C_used_ok hL 0 _ _ (r, S1) e1 Q' hQ') rfl ?_
  refine a_aloadR dL_law_1601 rfl rfl ?_
  refine a_arg hb dL_law_1602 dL_law_1603 dL_law_1604 dL_law_1605 dL_law_1606 rfl rfl rfl rfl rfl rfl rfl (by omega) (by omega) ?_
  refine a_call (o := (r, S2)) (as := [qi (xs (i + 1).toNat).toInt]) dL_law_1607 ml_L_191 rfl rfl (hL 70 (by decide)) sh_70 rfl rfl (Nat.le_of_ble_eq_true rfl) (Nat.le_of_ble_eq_true rfl) (fun Q' hQ' => M_used_ok hL 0 _ _ (r, S2) e2 Q' hQ') rfl ?_
  exact a_icmp_eq dL_law_1610 (by decide) rfl (ih S2 h2)
set_option maxRecDepth 20000 in
theorem law_rank (hL : ∀ c, c < 93 → c ∈ qLs X) (hb : L ≤ 3072) (h0 : 0 ≤ i) (h6 : i + 6 ≤ (L : Int)) (hG : iG S) (ih : ∀ S', iG S' → aW X b L xs 1822 [(0, qo (.ref b)), (1, qr 0), (2, qr 70), (3, qi i)] [] S') : aW X b L xs 1615 [(0, qo (.ref b)), (1, qr 0), (2, qr 70), (3, qi i)] [] S := by
  obtain ⟨r, S1, S2, e1, e2, h2⟩ := g_rank (a_R (xs (i + 1).toNat)) (a_R (xs (i + 2).toNat)) S hG
  refine a_aloadR dL_law_1615 rfl rfl ?_
  refine a_arg hb dL_law_1616 dL_law_1617 dL_law_1618 dL_law_1619 dL_law_1620 rfl rfl rfl rfl rfl rfl rfl (by omega) (by omega) ?_
  refine a_arg hb dL_law_1621 dL_law_1622 dL_law_1623 dL_law_1624 dL_law_1625 rfl rfl rfl rfl rfl rfl rfl (by omega) (by omega) ?_
  refine a_call (o := (r, S1)) (as := [qi (xs (i + 1).toNat).toInt, qi (xs (i + 2).toNat).toInt]) dL_law_1626 ml_L_192 rfl rfl (hL 0 (by decide)) sh_0 rfl rfl (Nat.le_of_ble_eq_true rfl) (Nat.le_of_ble_eq_true rfl) (fun Q' hQ' => C_rank_ok hL 0 _ _ _ (r, S1) e1 Q' hQ') rfl ?_
  refine a_aloadR dL_law_1629 rfl rfl ?_
  refine a_arg hb dL_law_1630 dL_law_1631 dL_law_1632 dL_law_1633 dL_law_1634 rfl rfl rfl rfl rfl rfl rfl (by omega) (by omega) ?_
  refine a_arg hb dL_law_1635 dL_law_1636 dL_law_1637 dL_law_1638 dL_law_1639 rfl rfl rfl rfl rfl rfl rfl (by omega) (by omega) ?_
  refine a_call (o := (r, S2)) (as := [qi (xs (i + 1).toNat).toInt, qi (xs (i + 2).toNat).toInt]) dL_law_1640 ml_L_195 rfl rfl (hL 70 (by decide)) sh_70 rfl rfl (Nat.le_of_ble_eq_true rfl) (Nat.le_of_ble_eq_true rfl) (fun Q' hQ' => M_rank_ok hL 0 _ _ _ (r, S2) e2 Q' hQ') rfl ?_
  exact a_icmp_eq dL_law_1643 (by decide) rfl (ih S2 h2)
set_option maxRecDepth 20000 in
theorem law_leaver (hL : ∀ c, c < 93 → c ∈ qLs X) (hb : L ≤ 3072) (h0 : 0 ≤ i) (h6 : i + 6 ≤ (L : Int)) (hG : iG S) (ih : ∀ S', iG S' → aW X b L xs 1822 [(0, qo (.ref b)), (1, qr 0), (2, qr 70), (3, qi i)] [] S') : aW X b L xs 1648 [(0, qo (.ref b)), (1, qr 0), (2, qr 70), (3, qi i)] [] S := by
  obtain ⟨r, S1, S2, e1, e2, h2⟩ := g_leaver (a_R (xs (i + 1).toNat)) S hG
  refine a_aloadR dL_law_1648 rfl rfl ?_
  refine a_arg hb dL_law_1649 dL_law_1650 dL_law_1651 dL_law_1652 dL_law_1653 rfl rfl rfl rfl rfl rfl rfl (by omega) (by omega) ?_
  refine a_call (o := (r, S1)) (as := [qi (xs (i + 1).toNat).toInt]) dL_law_1654 ml_L_196 rfl rfl (hL 0 (by decide)) sh_0 rfl rfl (Nat.le_of_ble_eq_true rfl) (Nat.le_of_ble_eq_true rfl) (fun Q' hQ' => C_leaver_ok hL 0 _ _ (r, S1) e1 Q' hQ') rfl ?_
  refine a_aloadR dL_law_1657 rfl rfl ?_
  refine a_arg hb dL_law_1658 dL_law_1659 dL_law_1660 dL_law_1661 dL_law_1662 rfl rfl rfl rfl rfl rfl rfl (by omega) (by omega) ?_
  refine a_call (o := (r, S2)) (as := [qi (xs (i + 1).toNat).toInt]) dL_law_1663 ml_L_199 rfl rfl (hL 70 (by decide)) sh_70 rfl rfl (Nat.le_of_ble_eq_true rfl) (Nat.le_of_ble_eq_true rfl) (fun Q' hQ' => M_leaver_ok hL 0 _ _ (r, S2) e2 Q' hQ') rfl ?_
  exact a_icmp_eq dL_law_1666 (by decide) rfl (ih S2 h2)
set_option maxRecDepth 20000 in
theorem law_meet (hL : ∀ c, c < 93 → c ∈ qLs X) (hb : L ≤ 3072) (h0 : 0 ≤ i) (h6 : i + 6 ≤ (L : Int)) (hG : iG S) (ih : ∀ S', iG S' → aW X b L xs 1822 [(0, qo (.ref b)), (1, qr 0), (2, qr 70), (3, qi i)] [] S') : aW X b L xs 1671 [(0, qo (.ref b)), (1, qr 0), (2, qr 70), (3, qi i)] [] S := by
  obtain ⟨r, S1, S2, e1, e2, h2⟩ := g_meet (a_R (xs (i + 1).toNat)) (a_R (xs (i + 2).toNat)) S hG
  refine a_aloadR dL_law_1671 rfl rfl ?_
  refine a_arg hb dL_law_1672 dL_law_1673 dL_law_1674 dL_law_1675 dL_law_1676 rfl rfl rfl rfl rfl rfl rfl (by omega) (by omega) ?_
  refine a_arg hb dL_law_1677 dL_law_1678 dL_law_1679 dL_law_1680 dL_law_1681 rfl rfl rfl rfl rfl rfl rfl (by omega) (by omega) ?_
  refine a_call (o := (r, S1)) (as := [qi (xs (i + 1).toNat).toInt, qi (xs (i + 2).toNat).toInt]) dL_law_1682 ml_L_200 rfl rfl (hL 0 (by decide)) sh_0 rfl rfl (Nat.le_of_ble_eq_true rfl) (Nat.le_of_ble_eq_true rfl) (fun Q' hQ' => C_meet_ok hL 0 _ _ _ (r, S1) e1 Q' hQ') rfl ?_
  refine a_aloadR dL_law_1685 rfl rfl ?_
  refine a_arg hb dL_law_1686 dL_law_1687 dL_law_1688 dL_law_1689 dL_law_1690 rfl rfl rfl rfl rfl rfl rfl (by omega) (by omega) ?_
  refine a_arg hb dL_law_1691 dL_law_1692 dL_law_1693 dL_law_1694 dL_law_1695 rfl rfl rfl rfl rfl rfl rfl (by omega) (by omega) ?_
  refine a_call (o := (r, S2)) (as := [qi (xs (i + 1).toNat).toInt, qi (xs (i + 2).toNat).toInt]) dL_law_1696 ml_L_203 rfl rfl (hL 70 (by decide)) sh_70 rfl rfl (Nat.le_of_ble_eq_true rfl) (Nat.le_of_ble_eq_true rfl) (fun Q' hQ' => M_meet_ok hL 0 _ _ _ (r, S2) e2 Q' hQ') rfl ?_
  exact a_icmp_eq dL_law_1699 (by decide) rfl (ih S2 h2)
set_option maxRecDepth 20000 in
theorem law_write (hL : ∀ c, c < 93 → c ∈ qLs X) (hb : L ≤ 3072) (h0 : 0 ≤ i) (h6 : i + 6 ≤ (L : Int)) (hG : iG S) (ih : ∀ S', iG S' → aW X b L xs 1822 [(0, qo (.ref b)), (1, qr 0), (2, qr 70), (3, qi i)] [] S') : aW X b L xs 1704 [(0, qo (.ref b)), (1, qr 0), (2, qr 70), (3, qi i)] [] S := by
  obtain ⟨r, S1, S2, e1, e2, h2⟩ := g_write S hG
  refine a_aloadR dL_law_1704 rfl rfl ?_
  refine a_call (o := (r, S1)) (as := []) dL_law_1705 ml_L_204 rfl rfl (hL 0 (by decide)) sh_0 rfl rfl (Nat.le_of_ble_eq_true rfl) (Nat.le_of_ble_eq_true rfl) (fun Q' hQ' => C_write_ok hL 0 _ (r, S1) e1 Q' hQ') rfl ?_
  refine a_aloadR dL_law_1708 rfl rfl ?_
  refine a_call (o := (r, S2)) (as := []) dL_law_1709 ml_L_207 rfl rfl (hL 70 (by decide)) sh_70 rfl rfl (Nat.le_of_ble_eq_true rfl) (Nat.le_of_ble_eq_true rfl) (fun Q' hQ' => M_write_ok hL 0 _ (r, S2) e2 Q' hQ') rfl ?_
  exact a_icmp_eq dL_law_1712 (by decide) rfl (ih S2 h2)
set_option maxRecDepth 20000 in
theorem law_octet (hL : ∀ c, c < 93 → c ∈ qLs X) (hb : L ≤ 3072) (h0 : 0 ≤ i) (h6 : i + 6 ≤ (L : Int)) (hG : iG S) (ih : ∀ S', iG S' → aW X b L xs 1822 [(0, qo (.ref b)), (1, qr 0), (2, qr 70), (3, qi i)] [] S') : aW X b L xs 1717 [(0, qo (.ref b)), (1, qr 0), (2, qr 70), (3, qi i)] [] S := by
  obtain ⟨r, S1, S2, e1, e2, h2⟩ := g_octet (a_R (xs (i + 1).toNat)) S hG
  refine a_aloadR dL_law_1717 rfl rfl ?_
  refine a_arg hb dL_law_1718 dL_law_1719 dL_law_1720 dL_law_1721 dL_law_1722 rfl rfl rfl rfl rfl rfl rfl (by omega) (by omega) ?_
  refine a_call (o := (r, S1)) (as := [qi (xs (i + 1).toNat).toInt]) dL_law_1723 ml_L_208 rfl rfl (hL 0 (by decide)) sh_0 rfl rfl (Nat.le_of_ble_eq_true rfl) (Nat.le_of_ble_eq_true rfl) (fun Q' hQ' => C_octet_ok hL 0 _ _ (r, S1) e1 Q' hQ') rfl ?_
  refine a_aloadR dL_law_1726 rfl rfl ?_
  refine a_arg hb dL_law_1727 dL_law_1728 dL_law_1729 dL_law_1730 dL_law_1731 rfl rfl rfl rfl rfl rfl rfl (by omega) (by omega) ?_
  refine a_call (o := (r, S2)) (as := [qi (xs (i + 1).toNat).toInt]) dL_law_1732 ml_L_211 rfl rfl (hL 70 (by decide)) sh_70 rfl rfl (Nat.le_of_ble_eq_true rfl) (Nat.le_of_ble_eq_true rfl) (fun Q' hQ' => M_octet_ok hL 0 _ _ (r, S2) e2 Q' hQ') rfl ?_
  exact a_icmp_eq dL_law_1735 (by decide) rfl (ih S2 h2)
set_option maxRecDepth 20000 in
theorem law_differs (hL : ∀ c, c < 93 → c ∈ qLs X) (hb : L ≤ 3072) (h0 : 0 ≤ i) (h6 : i + 6 ≤ (L : Int)) (hG : iG S) (ih : ∀ S', iG S' → aW X b L xs 1822 [(0, qo (.ref b)), (1, qr 0), (2, qr 70), (3, qi i)] [] S') : aW X b L xs 1740 [(0, qo (.ref b)), (1, qr 0), (2, qr 70), (3, qi i)] [] S := by
  obtain ⟨r, S1, S2, e1, e2, h2⟩ := g_differs (a_R (xs (i + 1).toNat)) S hG
  refine a_aloadR dL_law_1740 rfl rfl ?_
  refine a_arg hb dL_law_1741 dL_law_1742 dL_law_1743 dL_law_1744 dL_law_1745 rfl rfl rfl rfl rfl rfl rfl (by omega) (by omega) ?_
  refine a_call (o := (r, S1)) (as := [qi (xs (i + 1).toNat).toInt]) dL_law_1746 ml_L_212 rfl rfl (hL 0 (by decide)) sh_0 rfl rfl (Nat.le_of_ble_eq_true rfl) (Nat.le_of_ble_eq_true rfl) (fun Q' hQ' => C_differs_ok hL 0 _ _ (r, S1) e1 Q' hQ') rfl ?_
  refine a_aloadR dL_law_1749 rfl rfl ?_
  refine a_arg hb dL_law_1750 dL_law_1751 dL_law_1752 dL_law_1753 dL_law_1754 rfl rfl rfl rfl rfl rfl rfl (by omega) (by omega) ?_
  refine a_call (o := (r, S2)) (as := [qi (xs (i + 1).toNat).toInt]) dL_law_1755 ml_L_215 rfl rfl (hL 70 (by decide)) sh_70 rfl rfl (Nat.le_of_ble_eq_true rfl) (Nat.le_of_ble_eq_true rfl) (fun Q' hQ' => M_differs_ok hL 0 _ _ (r, S2) e2 Q' hQ') rfl ?_
  exact a_icmp_eq dL_law_1758 (by decide) rfl (ih S2 h2)
set_option maxRecDepth 20000 in
theorem law_undo (hL : ∀ c, c < 93 → c ∈ qLs X) (hb : L ≤ 3072) (h0 : 0 ≤ i) (h6 : i + 6 ≤ (L : Int)) (hG : iG S) (ih : ∀ S', iG S' → aW X b L xs 1822 [(0, qo (.ref b)), (1, qr 0), (2, qr 70), (3, qi i)] [] S') : aW X b L xs 1763 [(0, qo (.ref b)), (1, qr 0), (2, qr 70), (3, qi i)] [] S := by
  obtain ⟨r, S1, S2, e1, e2, h2⟩ := g_undo S hG
  refine a_aloadR dL_law_1763 rfl rfl ?_
  refine a_call (o := (r, S1)) (as := []) dL_law_1764 ml_L_216 rfl rfl (hL 0 (by decide)) sh_0 rfl rfl (Nat.le_of_ble_eq_true rfl) (Nat.le_of_ble_eq_true rfl) (fun Q' hQ' => C_undo_ok hL 0 _ (r, S1) e1 Q' hQ') rfl ?_
  refine a_aloadR dL_law_1767 rfl rfl ?_
  refine a_call (o := (r, S2)) (as := []) dL_law_1768 ml_L_219 rfl rfl (hL 70 (by decide)) sh_70 rfl rfl (Nat.le_of_ble_eq_true rfl) (Nat.le_of_ble_eq_true rfl) (fun Q' hQ' => M_undo_ok hL 0 _ (r, S2) e2 Q' hQ') rfl ?_
  exact a_icmp_eq dL_law_1771 (by decide) rfl (ih S2 h2)
set_option maxRecDepth 20000 in
theorem law_mark (hL : ∀ c, c < 93 → c ∈ qLs X) (hb : L ≤ 3072) (h0 : 0 ≤ i) (h6 : i + 6 ≤ (L : Int)) (hG : iG S) (ih : ∀ S', iG S' → aW X b L xs 1822 [(0, qo (.ref b)), (1, qr 0), (2, qr 70), (3, qi i)] [] S') : aW X b L xs 1776 [(0, qo (.ref b)), (1, qr 0), (2, qr 70), (3, qi i)] [] S := by
  obtain ⟨r, S1, S2, e1, e2, h2⟩ := g_mark (a_R (xs (i + 1).toNat)) S hG
  refine a_aloadR dL_law_1776 rfl rfl ?_
  refine a_arg hb dL_law_1777 dL_law_1778 dL_law_1779 dL_law_1780 dL_law_1781 rfl rfl rfl rfl rfl rfl rfl (by omega) (by omega) ?_
  refine a_call (o := (r, S1)) (as := [qi (xs (i + 1).toNat).toInt]) dL_law_1782 ml_L_220 rfl rfl (hL 0 (by decide)) sh_0 rfl rfl (Nat.le_of_ble_eq_true rfl) (Nat.le_of_ble_eq_true rfl) (fun Q' hQ' => C_mark_ok hL 0 _ _ (r, S1) e1 Q' hQ') rfl ?_
  refine a_aloadR dL_law_1785 rfl rfl ?_
  refine a_arg hb dL_law_1786 dL_law_1787 dL_law_1788 dL_law_1789 dL_law_1790 rfl rfl rfl rfl rfl rfl rfl (by omega) (by omega) ?_
  refine a_call (o := (r, S2)) (as := [qi (xs (i + 1).toNat).toInt]) dL_law_1791 ml_L_223 rfl rfl (hL 70 (by decide)) sh_70 rfl rfl (Nat.le_of_ble_eq_true rfl) (Nat.le_of_ble_eq_true rfl) (fun Q' hQ' => M_mark_ok hL 0 _ _ (r, S2) e2 Q' hQ') rfl ?_
  exact a_icmp_eq dL_law_1794 (by decide) rfl (ih S2 h2)
set_option maxRecDepth 20000 in
theorem law_back (hL : ∀ c, c < 93 → c ∈ qLs X) (hb : L ≤ 3072) (h0 : 0 ≤ i) (h6 : i + 6 ≤ (L : Int)) (hG : iG S) (ih : ∀ S', iG S' → aW X b L xs 1822 [(0, qo (.ref b)), (1, qr 0), (2, qr 70), (3, qi i)] [] S') : aW X b L xs 1799 [(0, qo (.ref b)), (1, qr 0), (2, qr 70), (3, qi i)] [] S := by
  obtain ⟨r, S1, S2, e1, e2, h2⟩ := g_back (a_R (xs (i + 1).toNat)) S hG
  refine a_aloadR dL_law_1799 rfl rfl ?_
  refine a_arg hb dL_law_1800 dL_law_1801 dL_law_1802 dL_law_1803 dL_law_1804 rfl rfl rfl rfl rfl rfl rfl (by omega) (by omega) ?_
  refine a_call (o := (r, S1)) (as := [qi (xs (i + 1).toNat).toInt]) dL_law_1805 ml_L_224 rfl rfl (hL 0 (by decide)) sh_0 rfl rfl (Nat.le_of_ble_eq_true rfl) (Nat.le_of_ble_eq_true rfl) (fun Q' hQ' => C_back_ok hL 0 _ _ (r, S1) e1 Q' hQ') rfl ?_
  refine a_aloadR dL_law_1808 rfl rfl ?_
  refine a_arg hb dL_law_1809 dL_law_1810 dL_law_1811 dL_law_1812 dL_law_1813 rfl rfl rfl rfl rfl rfl rfl (by omega) (by omega) ?_
  refine a_call (o := (r, S2)) (as := [qi (xs (i + 1).toNat).toInt]) dL_law_1814 ml_L_227 rfl rfl (hL 70 (by decide)) sh_70 rfl rfl (Nat.le_of_ble_eq_true rfl) (Nat.le_of_ble_eq_true rfl) (fun Q' hQ' => M_back_ok hL 0 _ _ (r, S2) e2 Q' hQ') rfl ?_
  exact a_icmp_eq dL_law_1817 (by decide) rfl (ih S2 h2)
end AC
