/-! THE LAW: its fifty cases -/
section L
variable {p : Program} {l : Launch} {e : Env} {s : State} {m : MethodId} {below : List Frame} {meth : Method} {c : Code} {b L : Nat} {xs : Nat → Int32} {D : va_G} {dA : Nat → ClassId} {i : Int32} {h : aH} {k iN : Nat}
theorem cs0 (C : lC p s m meth c b L xs D dA) (hL : L ≤ 3072) (hi : i = nI iN) (hin : iN + 6 ≤ L) (hI : INV 0 138 k h) (hk : k < 512) (nx : ∀ h2, INV 0 138 (k + 1) h2 → lJ p l e s m below meth c b D dA i h2 1673 []) : lJ p l e s m below meth c b D dA i h 248 [] := by
  obtain ⟨d, d', r, H1, H2, hd, hd', c1, c2, hI2, ⟨hr2, fs2, hf2⟩, ⟨v, rfl⟩⟩ := two_of (m_status (l := l) hI) (by decide) (by decide)
  obtain ⟨hr1, fs1, hf1⟩ := iv_rc hI
  obtain ⟨hR1, hR2⟩ := iv_rm hI2 hk
  have g1 := c2.1
  have g2 := c2.2.1
  refine l_1 C dL_law_248 ?_
  refine l_call (st := []) (As := []) C cv_L_13 hd dL_law_249 hf1 hr1 rfl (by decide) c1 (by omega) (by omega) rfl ?_
  refine l_2 C dL_law_252 ?_
  refine l_call (st := [.int v]) (As := []) C cv_L_17 hd' dL_law_253 hf2 hr2 rfl (Nat.le_of_ble_eq_true rfl) c2 hR1 hR2 rfl ?_
  exact l_eqI C dL_law_256 (by decide) (nx H2 hI2)
theorem cs1 (C : lC p s m meth c b L xs D dA) (hL : L ≤ 3072) (hi : i = nI iN) (hin : iN + 6 ≤ L) (hI : INV 0 138 k h) (hk : k < 512) (nx : ∀ h2, INV 0 138 (k + 1) h2 → lJ p l e s m below meth c b D dA i h2 1673 []) : lJ p l e s m below meth c b D dA i h 261 [] := by
  obtain ⟨d, d', r, H1, H2, hd, hd', c1, c2, hI2, ⟨hr2, fs2, hf2⟩, ⟨v, rfl⟩⟩ := two_of (m_top (l := l) hI) (by decide) (by decide)
  obtain ⟨hr1, fs1, hf1⟩ := iv_rc hI
  obtain ⟨hR1, hR2⟩ := iv_rm hI2 hk
  have g1 := c2.1
  have g2 := c2.2.1
  refine l_1 C dL_law_261 ?_
  refine l_call (st := []) (As := []) C cv_L_18 hd dL_law_262 hf1 hr1 rfl (by decide) c1 (by omega) (by omega) rfl ?_
  refine l_2 C dL_law_265 ?_
  refine l_call (st := [.long v]) (As := []) C cv_L_22 hd' dL_law_266 hf2 hr2 rfl (Nat.le_of_ble_eq_true rfl) c2 hR1 hR2 rfl ?_
  exact l_eqL C dL_law_269 dL_law_270 (by decide) (nx H2 hI2)
theorem cs2 (C : lC p s m meth c b L xs D dA) (hL : L ≤ 3072) (hi : i = nI iN) (hin : iN + 6 ≤ L) (hI : INV 0 138 k h) (hk : k < 512) (nx : ∀ h2, INV 0 138 (k + 1) h2 → lJ p l e s m below meth c b D dA i h2 1673 []) : lJ p l e s m below meth c b D dA i h 275 [] := by
  obtain ⟨d, d', r, H1, H2, hd, hd', c1, c2, hI2, ⟨hr2, fs2, hf2⟩, ⟨v, rfl⟩⟩ := two_of (m_bottom (l := l) hI) (by decide) (by decide)
  obtain ⟨hr1, fs1, hf1⟩ := iv_rc hI
  obtain ⟨hR1, hR2⟩ := iv_rm hI2 hk
  have g1 := c2.1
  have g2 := c2.2.1
  refine l_1 C dL_law_275 ?_
  refine l_call (st := []) (As := []) C cv_L_23 hd dL_law_276 hf1 hr1 rfl (by decide) c1 (by omega) (by omega) rfl ?_
  refine l_2 C dL_law_279 ?_
  refine l_call (st := [.long v]) (As := []) C cv_L_26 hd' dL_law_280 hf2 hr2 rfl (Nat.le_of_ble_eq_true rfl) c2 hR1 hR2 rfl ?_
  exact l_eqL C dL_law_283 dL_law_284 (by decide) (nx H2 hI2)
theorem cs3 (C : lC p s m meth c b L xs D dA) (hL : L ≤ 3072) (hi : i = nI iN) (hin : iN + 6 ≤ L) (hI : INV 0 138 k h) (hk : k < 512) (nx : ∀ h2, INV 0 138 (k + 1) h2 → lJ p l e s m below meth c b D dA i h2 1673 []) : lJ p l e s m below meth c b D dA i h 289 [] := by
  obtain ⟨d, d', r, H1, H2, hd, hd', c1, c2, hI2, ⟨hr2, fs2, hf2⟩, ⟨v, rfl⟩⟩ := two_of (m_tray (l := l) hI (xs (iN + 1)) (xs (iN + 2)) (xs (iN + 3))) (by decide) (by decide)
  obtain ⟨hr1, fs1, hf1⟩ := iv_rc hI
  obtain ⟨hR1, hR2⟩ := iv_rm hI2 hk
  have g1 := c2.1
  have g2 := c2.2.1
  refine l_1 C dL_law_289 ?_
  refine l_arg C hL (n := 1) hi (by omega) (by decide) dL_law_290 dL_law_291 dL_law_292 dL_law_293 dL_law_294 ?_
  refine l_arg C hL (n := 2) hi (by omega) (by decide) dL_law_295 dL_law_296 dL_law_297 dL_law_298 dL_law_299 ?_
  refine l_arg C hL (n := 3) hi (by omega) (by decide) dL_law_300 dL_law_301 dL_law_302 dL_law_303 dL_law_304 ?_
  refine l_call (st := []) (As := [.int (xs (iN + 1)), .int (xs (iN + 2)), .int (xs (iN + 3))]) C cv_L_27 hd dL_law_305 hf1 hr1 rfl (by decide) c1 (by omega) (by omega) rfl ?_
  refine l_2 C dL_law_308 ?_
  refine l_arg C hL (n := 1) hi (by omega) (by decide) dL_law_309 dL_law_310 dL_law_311 dL_law_312 dL_law_313 ?_
  refine l_arg C hL (n := 2) hi (by omega) (by decide) dL_law_314 dL_law_315 dL_law_316 dL_law_317 dL_law_318 ?_
  refine l_arg C hL (n := 3) hi (by omega) (by decide) dL_law_319 dL_law_320 dL_law_321 dL_law_322 dL_law_323 ?_
  refine l_call (st := [.int v]) (As := [.int (xs (iN + 1)), .int (xs (iN + 2)), .int (xs (iN + 3))]) C cv_L_31 hd' dL_law_324 hf2 hr2 rfl (Nat.le_of_ble_eq_true rfl) c2 hR1 hR2 rfl ?_
  exact l_eqI C dL_law_327 (by decide) (nx H2 hI2)
theorem cs4 (C : lC p s m meth c b L xs D dA) (hL : L ≤ 3072) (hi : i = nI iN) (hin : iN + 6 ≤ L) (hI : INV 0 138 k h) (hk : k < 512) (nx : ∀ h2, INV 0 138 (k + 1) h2 → lJ p l e s m below meth c b D dA i h2 1673 []) : lJ p l e s m below meth c b D dA i h 332 [] := by
  obtain ⟨d, d', r, H1, H2, hd, hd', c1, c2, hI2, ⟨hr2, fs2, hf2⟩, ⟨v, rfl⟩⟩ := two_of (m_write (l := l) hI (xs (iN + 1)) (xs (iN + 2)) ((((xs (iN + 3)).toInt64 <<< ((32 : Int32).toInt64 &&& 63)) ||| ((xs (iN + 4)).toInt64 &&& 4294967295)))) (by decide) (by decide)
  obtain ⟨hr1, fs1, hf1⟩ := iv_rc hI
  obtain ⟨hR1, hR2⟩ := iv_rm hI2 hk
  have g1 := c2.1
  have g2 := c2.2.1
  refine l_1 C dL_law_332 ?_
  refine l_arg C hL (n := 1) hi (by omega) (by decide) dL_law_333 dL_law_334 dL_law_335 dL_law_336 dL_law_337 ?_
  refine l_arg C hL (n := 2) hi (by omega) (by decide) dL_law_338 dL_law_339 dL_law_340 dL_law_341 dL_law_342 ?_
  refine l_arg C hL (n := 3) hi (by omega) (by decide) dL_law_343 dL_law_344 dL_law_345 dL_law_346 dL_law_347 ?_
  refine l_i2l C dL_law_348 ?_
  refine ll_shl C dL_law_349 dL_law_351 ?_
  refine l_arg C hL (n := 4) hi (by omega) (by decide) dL_law_352 dL_law_353 dL_law_354 dL_law_355 dL_law_356 ?_
  refine l_i2l C dL_law_357 ?_
  refine ll_or C dL_law_358 dL_law_361 dL_law_362 ?_
  refine l_call (st := []) (As := [.int (xs (iN + 1)), .int (xs (iN + 2)), .long ((((xs (iN + 3)).toInt64 <<< ((32 : Int32).toInt64 &&& 63)) ||| ((xs (iN + 4)).toInt64 &&& 4294967295)))]) C cv_L_34 hd dL_law_363 hf1 hr1 rfl (by decide) c1 (by omega) (by omega) rfl ?_
  refine l_2 C dL_law_366 ?_
  refine l_arg C hL (n := 1) hi (by omega) (by decide) dL_law_367 dL_law_368 dL_law_369 dL_law_370 dL_law_371 ?_
  refine l_arg C hL (n := 2) hi (by omega) (by decide) dL_law_372 dL_law_373 dL_law_374 dL_law_375 dL_law_376 ?_
  refine l_arg C hL (n := 3) hi (by omega) (by decide) dL_law_377 dL_law_378 dL_law_379 dL_law_380 dL_law_381 ?_
  refine l_i2l C dL_law_382 ?_
  refine ll_shl C dL_law_383 dL_law_385 ?_
  refine l_arg C hL (n := 4) hi (by omega) (by decide) dL_law_386 dL_law_387 dL_law_388 dL_law_389 dL_law_390 ?_
  refine l_i2l C dL_law_391 ?_
  refine ll_or C dL_law_392 dL_law_395 dL_law_396 ?_
  refine l_call (st := [.int v]) (As := [.int (xs (iN + 1)), .int (xs (iN + 2)), .long ((((xs (iN + 3)).toInt64 <<< ((32 : Int32).toInt64 &&& 63)) ||| ((xs (iN + 4)).toInt64 &&& 4294967295)))]) C cv_L_38 hd' dL_law_397 hf2 hr2 rfl (Nat.le_of_ble_eq_true rfl) c2 hR1 hR2 rfl ?_
  exact l_eqI C dL_law_400 (by decide) (nx H2 hI2)
theorem cs5 (C : lC p s m meth c b L xs D dA) (hL : L ≤ 3072) (hi : i = nI iN) (hin : iN + 6 ≤ L) (hI : INV 0 138 k h) (hk : k < 512) (nx : ∀ h2, INV 0 138 (k + 1) h2 → lJ p l e s m below meth c b D dA i h2 1673 []) : lJ p l e s m below meth c b D dA i h 405 [] := by
  obtain ⟨d, d', r, H1, H2, hd, hd', c1, c2, hI2, ⟨hr2, fs2, hf2⟩, ⟨v, rfl⟩⟩ := two_of (m_read (l := l) hI (xs (iN + 1)) (xs (iN + 2))) (by decide) (by decide)
  obtain ⟨hr1, fs1, hf1⟩ := iv_rc hI
  obtain ⟨hR1, hR2⟩ := iv_rm hI2 hk
  have g1 := c2.1
  have g2 := c2.2.1
  refine l_1 C dL_law_405 ?_
  refine l_arg C hL (n := 1) hi (by omega) (by decide) dL_law_406 dL_law_407 dL_law_408 dL_law_409 dL_law_410 ?_
  refine l_arg C hL (n := 2) hi (by omega) (by decide) dL_law_411 dL_law_412 dL_law_413 dL_law_414 dL_law_415 ?_
  refine l_call (st := []) (As := [.int (xs (iN + 1)), .int (xs (iN + 2))]) C cv_L_39 hd dL_law_416 hf1 hr1 rfl (by decide) c1 (by omega) (by omega) rfl ?_
  refine l_2 C dL_law_419 ?_
  refine l_arg C hL (n := 1) hi (by omega) (by decide) dL_law_420 dL_law_421 dL_law_422 dL_law_423 dL_law_424 ?_
  refine l_arg C hL (n := 2) hi (by omega) (by decide) dL_law_425 dL_law_426 dL_law_427 dL_law_428 dL_law_429 ?_
  refine l_call (st := [.long v]) (As := [.int (xs (iN + 1)), .int (xs (iN + 2))]) C cv_L_43 hd' dL_law_430 hf2 hr2 rfl (Nat.le_of_ble_eq_true rfl) c2 hR1 hR2 rfl ?_
  exact l_eqL C dL_law_433 dL_law_434 (by decide) (nx H2 hI2)
theorem cs6 (C : lC p s m meth c b L xs D dA) (hL : L ≤ 3072) (hi : i = nI iN) (hin : iN + 6 ≤ L) (hI : INV 0 138 k h) (hk : k < 512) (nx : ∀ h2, INV 0 138 (k + 1) h2 → lJ p l e s m below meth c b D dA i h2 1673 []) : lJ p l e s m below meth c b D dA i h 439 [] := by
  obtain ⟨d, d', r, H1, H2, hd, hd', c1, c2, hI2, ⟨hr2, fs2, hf2⟩, ⟨v, rfl⟩⟩ := two_of (m_pour (l := l) hI (xs (iN + 1)) (xs (iN + 2)) (xs (iN + 3)) (xs (iN + 4)) (xs (iN + 5))) (by decide) (by decide)
  obtain ⟨hr1, fs1, hf1⟩ := iv_rc hI
  obtain ⟨hR1, hR2⟩ := iv_rm hI2 hk
  have g1 := c2.1
  have g2 := c2.2.1
  refine l_1 C dL_law_439 ?_
  refine l_arg C hL (n := 1) hi (by omega) (by decide) dL_law_440 dL_law_441 dL_law_442 dL_law_443 dL_law_444 ?_
  refine l_arg C hL (n := 2) hi (by omega) (by decide) dL_law_445 dL_law_446 dL_law_447 dL_law_448 dL_law_449 ?_
  refine l_arg C hL (n := 3) hi (by omega) (by decide) dL_law_450 dL_law_451 dL_law_452 dL_law_453 dL_law_454 ?_
  refine l_arg C hL (n := 4) hi (by omega) (by decide) dL_law_455 dL_law_456 dL_law_457 dL_law_458 dL_law_459 ?_
  refine l_arg C hL (n := 5) hi (by omega) (by decide) dL_law_460 dL_law_461 dL_law_462 dL_law_463 dL_law_464 ?_
  refine l_call (st := []) (As := [.int (xs (iN + 1)), .int (xs (iN + 2)), .int (xs (iN + 3)), .int (xs (iN + 4)), .int (xs (iN + 5))]) C cv_L_44 hd dL_law_465 hf1 hr1 rfl (by decide) c1 (by omega) (by omega) rfl ?_
  refine l_2 C dL_law_468 ?_
  refine l_arg C hL (n := 1) hi (by omega) (by decide) dL_law_469 dL_law_470 dL_law_471 dL_law_472 dL_law_473 ?_
  refine l_arg C hL (n := 2) hi (by omega) (by decide) dL_law_474 dL_law_475 dL_law_476 dL_law_477 dL_law_478 ?_
  refine l_arg C hL (n := 3) hi (by omega) (by decide) dL_law_479 dL_law_480 dL_law_481 dL_law_482 dL_law_483 ?_
  refine l_arg C hL (n := 4) hi (by omega) (by decide) dL_law_484 dL_law_485 dL_law_486 dL_law_487 dL_law_488 ?_
  refine l_arg C hL (n := 5) hi (by omega) (by decide) dL_law_489 dL_law_490 dL_law_491 dL_law_492 dL_law_493 ?_
  refine l_call (st := [.int v]) (As := [.int (xs (iN + 1)), .int (xs (iN + 2)), .int (xs (iN + 3)), .int (xs (iN + 4)), .int (xs (iN + 5))]) C cv_L_48 hd' dL_law_494 hf2 hr2 rfl (Nat.le_of_ble_eq_true rfl) c2 hR1 hR2 rfl ?_
  exact l_eqI C dL_law_497 (by decide) (nx H2 hI2)
theorem cs7 (C : lC p s m meth c b L xs D dA) (hL : L ≤ 3072) (hi : i = nI iN) (hin : iN + 6 ≤ L) (hI : INV 0 138 k h) (hk : k < 512) (nx : ∀ h2, INV 0 138 (k + 1) h2 → lJ p l e s m below meth c b D dA i h2 1673 []) : lJ p l e s m below meth c b D dA i h 502 [] := by
  obtain ⟨d, d', r, H1, H2, hd, hd', c1, c2, hI2, ⟨hr2, fs2, hf2⟩, ⟨v, rfl⟩⟩ := two_of (m_feed (l := l) hI (xs (iN + 1)) (xs (iN + 2)) (xs (iN + 3)) (xs (iN + 4)) (xs (iN + 5))) (by decide) (by decide)
  obtain ⟨hr1, fs1, hf1⟩ := iv_rc hI
  obtain ⟨hR1, hR2⟩ := iv_rm hI2 hk
  have g1 := c2.1
  have g2 := c2.2.1
  refine l_1 C dL_law_502 ?_
  refine l_arg C hL (n := 1) hi (by omega) (by decide) dL_law_503 dL_law_504 dL_law_505 dL_law_506 dL_law_507 ?_
  refine l_arg C hL (n := 2) hi (by omega) (by decide) dL_law_508 dL_law_509 dL_law_510 dL_law_511 dL_law_512 ?_
  refine l_arg C hL (n := 3) hi (by omega) (by decide) dL_law_513 dL_law_514 dL_law_515 dL_law_516 dL_law_517 ?_
  refine l_arg C hL (n := 4) hi (by omega) (by decide) dL_law_518 dL_law_519 dL_law_520 dL_law_521 dL_law_522 ?_
  refine l_arg C hL (n := 5) hi (by omega) (by decide) dL_law_523 dL_law_524 dL_law_525 dL_law_526 dL_law_527 ?_
  refine l_call (st := []) (As := [.int (xs (iN + 1)), .int (xs (iN + 2)), .int (xs (iN + 3)), .int (xs (iN + 4)), .int (xs (iN + 5))]) C cv_L_49 hd dL_law_528 hf1 hr1 rfl (by decide) c1 (by omega) (by omega) rfl ?_
  refine l_2 C dL_law_531 ?_
  refine l_arg C hL (n := 1) hi (by omega) (by decide) dL_law_532 dL_law_533 dL_law_534 dL_law_535 dL_law_536 ?_
  refine l_arg C hL (n := 2) hi (by omega) (by decide) dL_law_537 dL_law_538 dL_law_539 dL_law_540 dL_law_541 ?_
  refine l_arg C hL (n := 3) hi (by omega) (by decide) dL_law_542 dL_law_543 dL_law_544 dL_law_545 dL_law_546 ?_
  refine l_arg C hL (n := 4) hi (by omega) (by decide) dL_law_547 dL_law_548 dL_law_549 dL_law_550 dL_law_551 ?_
  refine l_arg C hL (n := 5) hi (by omega) (by decide) dL_law_552 dL_law_553 dL_law_554 dL_law_555 dL_law_556 ?_
  refine l_call (st := [.int v]) (As := [.int (xs (iN + 1)), .int (xs (iN + 2)), .int (xs (iN + 3)), .int (xs (iN + 4)), .int (xs (iN + 5))]) C cv_L_53 hd' dL_law_557 hf2 hr2 rfl (Nat.le_of_ble_eq_true rfl) c2 hR1 hR2 rfl ?_
  exact l_eqI C dL_law_560 (by decide) (nx H2 hI2)
theorem cs8 (C : lC p s m meth c b L xs D dA) (hL : L ≤ 3072) (hi : i = nI iN) (hin : iN + 6 ≤ L) (hI : INV 0 138 k h) (hk : k < 512) (nx : ∀ h2, INV 0 138 (k + 1) h2 → lJ p l e s m below meth c b D dA i h2 1673 []) : lJ p l e s m below meth c b D dA i h 565 [] := by
  obtain ⟨d, d', r, H1, H2, hd, hd', c1, c2, hI2, ⟨hr2, fs2, hf2⟩, ⟨v, rfl⟩⟩ := m_book (l := l) hI (xs (iN + 1))
  obtain ⟨hr1, fs1, hf1⟩ := iv_rc hI
  obtain ⟨hR1, hR2⟩ := iv_rm hI2 hk
  have g1 := c2.1
  have g2 := c2.2.1
  refine l_1 C dL_law_565 ?_
  refine l_arg C hL (n := 1) hi (by omega) (by decide) dL_law_566 dL_law_567 dL_law_568 dL_law_569 dL_law_570 ?_
  refine l_call (st := []) (As := [.int (xs (iN + 1))]) C cv_L_54 hd dL_law_571 hf1 hr1 rfl (by decide) c1 (by omega) (by omega) rfl ?_
  refine l_2 C dL_law_574 ?_
  refine l_arg C hL (n := 1) hi (by omega) (by decide) dL_law_575 dL_law_576 dL_law_577 dL_law_578 dL_law_579 ?_
  refine l_call (st := [.int v]) (As := [.int (xs (iN + 1))]) C cv_L_58 hd' dL_law_580 hf2 hr2 rfl (Nat.le_of_ble_eq_true rfl) c2 hR1 hR2 rfl ?_
  exact l_eqI C dL_law_583 (by decide) (nx H2 hI2)
theorem cs9 (C : lC p s m meth c b L xs D dA) (hL : L ≤ 3072) (hi : i = nI iN) (hin : iN + 6 ≤ L) (hI : INV 0 138 k h) (hk : k < 512) (nx : ∀ h2, INV 0 138 (k + 1) h2 → lJ p l e s m below meth c b D dA i h2 1673 []) : lJ p l e s m below meth c b D dA i h 588 [] := by
  obtain ⟨d, d', r, H1, H2, hd, hd', c1, c2, hI2, ⟨hr2, fs2, hf2⟩, ⟨v, rfl⟩⟩ := m_log (l := l) hI (xs (iN + 1))
  obtain ⟨hr1, fs1, hf1⟩ := iv_rc hI
  obtain ⟨hR1, hR2⟩ := iv_rm hI2 hk
  have g1 := c2.1
  have g2 := c2.2.1
  refine l_1 C dL_law_588 ?_
  refine l_arg C hL (n := 1) hi (by omega) (by decide) dL_law_589 dL_law_590 dL_law_591 dL_law_592 dL_law_593 ?_
  refine l_call (st := []) (As := [.int (xs (iN + 1))]) C cv_L_59 hd dL_law_594 hf1 hr1 rfl (by decide) c1 (by omega) (by omega) rfl ?_
  refine l_2 C dL_law_597 ?_
  refine l_arg C hL (n := 1) hi (by omega) (by decide) dL_law_598 dL_law_599 dL_law_600 dL_law_601 dL_law_602 ?_
  refine l_call (st := [.int v]) (As := [.int (xs (iN + 1))]) C cv_L_62 hd' dL_law_603 hf2 hr2 rfl (Nat.le_of_ble_eq_true rfl) c2 hR1 hR2 rfl ?_
  exact l_eqI C dL_law_606 (by decide) (nx H2 hI2)
theorem cs10 (C : lC p s m meth c b L xs D dA) (hL : L ≤ 3072) (hi : i = nI iN) (hin : iN + 6 ≤ L) (hI : INV 0 138 k h) (hk : k < 512) (nx : ∀ h2, INV 0 138 (k + 1) h2 → lJ p l e s m below meth c b D dA i h2 1673 []) : lJ p l e s m below meth c b D dA i h 611 [] := by
  obtain ⟨d, d', r, H1, H2, hd, hd', c1, c2, hI2, ⟨hr2, fs2, hf2⟩, ⟨v, rfl⟩⟩ := two_of (m_fault (l := l) hI (xs (iN + 1))) (by decide) (by decide)
  obtain ⟨hr1, fs1, hf1⟩ := iv_rc hI
  obtain ⟨hR1, hR2⟩ := iv_rm hI2 hk
  have g1 := c2.1
  have g2 := c2.2.1
  refine l_1 C dL_law_611 ?_
  refine l_arg C hL (n := 1) hi (by omega) (by decide) dL_law_612 dL_law_613 dL_law_614 dL_law_615 dL_law_616 ?_
  refine l_call (st := []) (As := [.int (xs (iN + 1))]) C cv_L_63 hd dL_law_617 hf1 hr1 rfl (by decide) c1 (by omega) (by omega) rfl ?_
  refine l_2 C dL_law_620 ?_
  refine l_arg C hL (n := 1) hi (by omega) (by decide) dL_law_621 dL_law_622 dL_law_623 dL_law_624 dL_law_625 ?_
  refine l_call (st := [.int v]) (As := [.int (xs (iN + 1))]) C cv_L_66 hd' dL_law_626 hf2 hr2 rfl (Nat.le_of_ble_eq_true rfl) c2 hR1 hR2 rfl ?_
  exact l_eqI C dL_law_629 (by decide) (nx H2 hI2)
theorem cs11 (C : lC p s m meth c b L xs D dA) (hL : L ≤ 3072) (hi : i = nI iN) (hin : iN + 6 ≤ L) (hI : INV 0 138 k h) (hk : k < 512) (nx : ∀ h2, INV 0 138 (k + 1) h2 → lJ p l e s m below meth c b D dA i h2 1673 []) : lJ p l e s m below meth c b D dA i h 634 [] := by
  obtain ⟨d, d', r, H1, H2, hd, hd', c1, c2, hI2, ⟨hr2, fs2, hf2⟩, ⟨v, rfl⟩⟩ := two_of (m_many (l := l) hI (xs (iN + 1))) (by decide) (by decide)
  obtain ⟨hr1, fs1, hf1⟩ := iv_rc hI
  obtain ⟨hR1, hR2⟩ := iv_rm hI2 hk
  have g1 := c2.1
  have g2 := c2.2.1
  refine l_1 C dL_law_634 ?_
  refine l_arg C hL (n := 1) hi (by omega) (by decide) dL_law_635 dL_law_636 dL_law_637 dL_law_638 dL_law_639 ?_
  refine l_call (st := []) (As := [.int (xs (iN + 1))]) C cv_L_67 hd dL_law_640 hf1 hr1 rfl (by decide) c1 (by omega) (by omega) rfl ?_
  refine l_2 C dL_law_643 ?_
  refine l_arg C hL (n := 1) hi (by omega) (by decide) dL_law_644 dL_law_645 dL_law_646 dL_law_647 dL_law_648 ?_
  refine l_call (st := [.int v]) (As := [.int (xs (iN + 1))]) C cv_L_70 hd' dL_law_649 hf2 hr2 rfl (Nat.le_of_ble_eq_true rfl) c2 hR1 hR2 rfl ?_
  exact l_eqI C dL_law_652 (by decide) (nx H2 hI2)
theorem cs12 (C : lC p s m meth c b L xs D dA) (hL : L ≤ 3072) (hi : i = nI iN) (hin : iN + 6 ≤ L) (hI : INV 0 138 k h) (hk : k < 512) (nx : ∀ h2, INV 0 138 (k + 1) h2 → lJ p l e s m below meth c b D dA i h2 1673 []) : lJ p l e s m below meth c b D dA i h 657 [] := by
  obtain ⟨d, d', r, H1, H2, hd, hd', c1, c2, hI2, ⟨hr2, fs2, hf2⟩, ⟨v, rfl⟩⟩ := two_of (m_change (l := l) hI (xs (iN + 1)) (xs (iN + 2))) (by decide) (by decide)
  obtain ⟨hr1, fs1, hf1⟩ := iv_rc hI
  obtain ⟨hR1, hR2⟩ := iv_rm hI2 hk
  have g1 := c2.1
  have g2 := c2.2.1
  refine l_1 C dL_law_657 ?_
  refine l_arg C hL (n := 1) hi (by omega) (by decide) dL_law_658 dL_law_659 dL_law_660 dL_law_661 dL_law_662 ?_
  refine l_arg C hL (n := 2) hi (by omega) (by decide) dL_law_663 dL_law_664 dL_law_665 dL_law_666 dL_law_667 ?_
  refine l_call (st := []) (As := [.int (xs (iN + 1)), .int (xs (iN + 2))]) C cv_L_71 hd dL_law_668 hf1 hr1 rfl (by decide) c1 (by omega) (by omega) rfl ?_
  refine l_2 C dL_law_671 ?_
  refine l_arg C hL (n := 1) hi (by omega) (by decide) dL_law_672 dL_law_673 dL_law_674 dL_law_675 dL_law_676 ?_
  refine l_arg C hL (n := 2) hi (by omega) (by decide) dL_law_677 dL_law_678 dL_law_679 dL_law_680 dL_law_681 ?_
  refine l_call (st := [.int v]) (As := [.int (xs (iN + 1)), .int (xs (iN + 2))]) C cv_L_75 hd' dL_law_682 hf2 hr2 rfl (Nat.le_of_ble_eq_true rfl) c2 hR1 hR2 rfl ?_
  exact l_eqI C dL_law_685 (by decide) (nx H2 hI2)
theorem cs13 (C : lC p s m meth c b L xs D dA) (hL : L ≤ 3072) (hi : i = nI iN) (hin : iN + 6 ≤ L) (hI : INV 0 138 k h) (hk : k < 512) (nx : ∀ h2, INV 0 138 (k + 1) h2 → lJ p l e s m below meth c b D dA i h2 1673 []) : lJ p l e s m below meth c b D dA i h 690 [] := by
  obtain ⟨d, d', r, H1, H2, hd, hd', c1, c2, hI2, ⟨hr2, fs2, hf2⟩, ⟨v, rfl⟩⟩ := two_of (m_hangs (l := l) hI (xs (iN + 1)) (xs (iN + 2))) (by decide) (by decide)
  obtain ⟨hr1, fs1, hf1⟩ := iv_rc hI
  obtain ⟨hR1, hR2⟩ := iv_rm hI2 hk
  have g1 := c2.1
  have g2 := c2.2.1
  refine l_1 C dL_law_690 ?_
  refine l_arg C hL (n := 1) hi (by omega) (by decide) dL_law_691 dL_law_692 dL_law_693 dL_law_694 dL_law_695 ?_
  refine l_arg C hL (n := 2) hi (by omega) (by decide) dL_law_696 dL_law_697 dL_law_698 dL_law_699 dL_law_700 ?_
  refine l_call (st := []) (As := [.int (xs (iN + 1)), .int (xs (iN + 2))]) C cv_L_76 hd dL_law_701 hf1 hr1 rfl (by decide) c1 (by omega) (by omega) rfl ?_
  refine l_2 C dL_law_704 ?_
  refine l_arg C hL (n := 1) hi (by omega) (by decide) dL_law_705 dL_law_706 dL_law_707 dL_law_708 dL_law_709 ?_
  refine l_arg C hL (n := 2) hi (by omega) (by decide) dL_law_710 dL_law_711 dL_law_712 dL_law_713 dL_law_714 ?_
  refine l_call (st := [.int v]) (As := [.int (xs (iN + 1)), .int (xs (iN + 2))]) C cv_L_79 hd' dL_law_715 hf2 hr2 rfl (Nat.le_of_ble_eq_true rfl) c2 hR1 hR2 rfl ?_
  exact l_eqI C dL_law_718 (by decide) (nx H2 hI2)
theorem cs14 (C : lC p s m meth c b L xs D dA) (hL : L ≤ 3072) (hi : i = nI iN) (hin : iN + 6 ≤ L) (hI : INV 0 138 k h) (hk : k < 512) (nx : ∀ h2, INV 0 138 (k + 1) h2 → lJ p l e s m below meth c b D dA i h2 1673 []) : lJ p l e s m below meth c b D dA i h 723 [] := by
  obtain ⟨d, d', r, H1, H2, hd, hd', c1, c2, hI2, ⟨hr2, fs2, hf2⟩, ⟨v, rfl⟩⟩ := two_of (m_holds (l := l) hI (xs (iN + 1))) (by decide) (by decide)
  obtain ⟨hr1, fs1, hf1⟩ := iv_rc hI
  obtain ⟨hR1, hR2⟩ := iv_rm hI2 hk
  have g1 := c2.1
  have g2 := c2.2.1
  refine l_1 C dL_law_723 ?_
  refine l_arg C hL (n := 1) hi (by omega) (by decide) dL_law_724 dL_law_725 dL_law_726 dL_law_727 dL_law_728 ?_
  refine l_call (st := []) (As := [.int (xs (iN + 1))]) C cv_L_80 hd dL_law_729 hf1 hr1 rfl (by decide) c1 (by omega) (by omega) rfl ?_
  refine l_2 C dL_law_732 ?_
  refine l_arg C hL (n := 1) hi (by omega) (by decide) dL_law_733 dL_law_734 dL_law_735 dL_law_736 dL_law_737 ?_
  refine l_call (st := [.int v]) (As := [.int (xs (iN + 1))]) C cv_L_83 hd' dL_law_738 hf2 hr2 rfl (Nat.le_of_ble_eq_true rfl) c2 hR1 hR2 rfl ?_
  exact l_eqI C dL_law_741 (by decide) (nx H2 hI2)
theorem cs15 (C : lC p s m meth c b L xs D dA) (hL : L ≤ 3072) (hi : i = nI iN) (hin : iN + 6 ≤ L) (hI : INV 0 138 k h) (hk : k < 512) (nx : ∀ h2, INV 0 138 (k + 1) h2 → lJ p l e s m below meth c b D dA i h2 1673 []) : lJ p l e s m below meth c b D dA i h 746 [] := by
  obtain ⟨d, d', r, H1, H2, hd, hd', c1, c2, hI2, ⟨hr2, fs2, hf2⟩, ⟨v, rfl⟩⟩ := two_of (m_lacks (l := l) hI (xs (iN + 1))) (by decide) (by decide)
  obtain ⟨hr1, fs1, hf1⟩ := iv_rc hI
  obtain ⟨hR1, hR2⟩ := iv_rm hI2 hk
  have g1 := c2.1
  have g2 := c2.2.1
  refine l_1 C dL_law_746 ?_
  refine l_arg C hL (n := 1) hi (by omega) (by decide) dL_law_747 dL_law_748 dL_law_749 dL_law_750 dL_law_751 ?_
  refine l_call (st := []) (As := [.int (xs (iN + 1))]) C cv_L_84 hd dL_law_752 hf1 hr1 rfl (by decide) c1 (by omega) (by omega) rfl ?_
  refine l_2 C dL_law_755 ?_
  refine l_arg C hL (n := 1) hi (by omega) (by decide) dL_law_756 dL_law_757 dL_law_758 dL_law_759 dL_law_760 ?_
  refine l_call (st := [.int v]) (As := [.int (xs (iN + 1))]) C cv_L_87 hd' dL_law_761 hf2 hr2 rfl (Nat.le_of_ble_eq_true rfl) c2 hR1 hR2 rfl ?_
  exact l_eqI C dL_law_764 (by decide) (nx H2 hI2)
theorem cs16 (C : lC p s m meth c b L xs D dA) (hL : L ≤ 3072) (hi : i = nI iN) (hin : iN + 6 ≤ L) (hI : INV 0 138 k h) (hk : k < 512) (nx : ∀ h2, INV 0 138 (k + 1) h2 → lJ p l e s m below meth c b D dA i h2 1673 []) : lJ p l e s m below meth c b D dA i h 769 [] := by
  obtain ⟨d, d', r, H1, H2, hd, hd', c1, c2, hI2, ⟨hr2, fs2, hf2⟩, ⟨v, rfl⟩⟩ := two_of (m_out (l := l) hI (xs (iN + 1)) (xs (iN + 2))) (by decide) (by decide)
  obtain ⟨hr1, fs1, hf1⟩ := iv_rc hI
  obtain ⟨hR1, hR2⟩ := iv_rm hI2 hk
  have g1 := c2.1
  have g2 := c2.2.1
  refine l_1 C dL_law_769 ?_
  refine l_arg C hL (n := 1) hi (by omega) (by decide) dL_law_770 dL_law_771 dL_law_772 dL_law_773 dL_law_774 ?_
  refine l_arg C hL (n := 2) hi (by omega) (by decide) dL_law_775 dL_law_776 dL_law_777 dL_law_778 dL_law_779 ?_
  refine l_call (st := []) (As := [.int (xs (iN + 1)), .int (xs (iN + 2))]) C cv_L_88 hd dL_law_780 hf1 hr1 rfl (by decide) c1 (by omega) (by omega) rfl ?_
  refine l_2 C dL_law_783 ?_
  refine l_arg C hL (n := 1) hi (by omega) (by decide) dL_law_784 dL_law_785 dL_law_786 dL_law_787 dL_law_788 ?_
  refine l_arg C hL (n := 2) hi (by omega) (by decide) dL_law_789 dL_law_790 dL_law_791 dL_law_792 dL_law_793 ?_
  refine l_call (st := [.int v]) (As := [.int (xs (iN + 1)), .int (xs (iN + 2))]) C cv_L_91 hd' dL_law_794 hf2 hr2 rfl (Nat.le_of_ble_eq_true rfl) c2 hR1 hR2 rfl ?_
  exact l_eqI C dL_law_797 (by decide) (nx H2 hI2)
theorem cs17 (C : lC p s m meth c b L xs D dA) (hL : L ≤ 3072) (hi : i = nI iN) (hin : iN + 6 ≤ L) (hI : INV 0 138 k h) (hk : k < 512) (nx : ∀ h2, INV 0 138 (k + 1) h2 → lJ p l e s m below meth c b D dA i h2 1673 []) : lJ p l e s m below meth c b D dA i h 802 [] := by
  obtain ⟨d, d', r, H1, H2, hd, hd', c1, c2, hI2, ⟨hr2, fs2, hf2⟩, ⟨v, rfl⟩⟩ := two_of (m_pick (l := l) hI (xs (iN + 1)) (xs (iN + 2))) (by decide) (by decide)
  obtain ⟨hr1, fs1, hf1⟩ := iv_rc hI
  obtain ⟨hR1, hR2⟩ := iv_rm hI2 hk
  have g1 := c2.1
  have g2 := c2.2.1
  refine l_1 C dL_law_802 ?_
  refine l_arg C hL (n := 1) hi (by omega) (by decide) dL_law_803 dL_law_804 dL_law_805 dL_law_806 dL_law_807 ?_
  refine l_arg C hL (n := 2) hi (by omega) (by decide) dL_law_808 dL_law_809 dL_law_810 dL_law_811 dL_law_812 ?_
  refine l_call (st := []) (As := [.int (xs (iN + 1)), .int (xs (iN + 2))]) C cv_L_92 hd dL_law_813 hf1 hr1 rfl (by decide) c1 (by omega) (by omega) rfl ?_
  refine l_2 C dL_law_816 ?_
  refine l_arg C hL (n := 1) hi (by omega) (by decide) dL_law_817 dL_law_818 dL_law_819 dL_law_820 dL_law_821 ?_
  refine l_arg C hL (n := 2) hi (by omega) (by decide) dL_law_822 dL_law_823 dL_law_824 dL_law_825 dL_law_826 ?_
  refine l_call (st := [.int v]) (As := [.int (xs (iN + 1)), .int (xs (iN + 2))]) C cv_L_95 hd' dL_law_827 hf2 hr2 rfl (Nat.le_of_ble_eq_true rfl) c2 hR1 hR2 rfl ?_
  exact l_eqI C dL_law_830 (by decide) (nx H2 hI2)
theorem cs18 (C : lC p s m meth c b L xs D dA) (hL : L ≤ 3072) (hi : i = nI iN) (hin : iN + 6 ≤ L) (hI : INV 0 138 k h) (hk : k < 512) (nx : ∀ h2, INV 0 138 (k + 1) h2 → lJ p l e s m below meth c b D dA i h2 1673 []) : lJ p l e s m below meth c b D dA i h 835 [] := by
  obtain ⟨d, d', r, H1, H2, hd, hd', c1, c2, hI2, ⟨hr2, fs2, hf2⟩, ⟨v, rfl⟩⟩ := two_of (m_heaviest (l := l) hI) (by decide) (by decide)
  obtain ⟨hr1, fs1, hf1⟩ := iv_rc hI
  obtain ⟨hR1, hR2⟩ := iv_rm hI2 hk
  have g1 := c2.1
  have g2 := c2.2.1
  refine l_1 C dL_law_835 ?_
  refine l_call (st := []) (As := []) C cv_L_96 hd dL_law_836 hf1 hr1 rfl (by decide) c1 (by omega) (by omega) rfl ?_
  refine l_2 C dL_law_839 ?_
  refine l_call (st := [.int v]) (As := []) C cv_L_99 hd' dL_law_840 hf2 hr2 rfl (Nat.le_of_ble_eq_true rfl) c2 hR1 hR2 rfl ?_
  exact l_eqI C dL_law_843 (by decide) (nx H2 hI2)
theorem cs19 (C : lC p s m meth c b L xs D dA) (hL : L ≤ 3072) (hi : i = nI iN) (hin : iN + 6 ≤ L) (hI : INV 0 138 k h) (hk : k < 512) (nx : ∀ h2, INV 0 138 (k + 1) h2 → lJ p l e s m below meth c b D dA i h2 1673 []) : lJ p l e s m below meth c b D dA i h 848 [] := by
  obtain ⟨d, d', r, H1, H2, hd, hd', c1, c2, hI2, ⟨hr2, fs2, hf2⟩, ⟨v, rfl⟩⟩ := two_of (m_alone (l := l) hI) (by decide) (by decide)
  obtain ⟨hr1, fs1, hf1⟩ := iv_rc hI
  obtain ⟨hR1, hR2⟩ := iv_rm hI2 hk
  have g1 := c2.1
  have g2 := c2.2.1
  refine l_1 C dL_law_848 ?_
  refine l_call (st := []) (As := []) C cv_L_100 hd dL_law_849 hf1 hr1 rfl (by decide) c1 (by omega) (by omega) rfl ?_
  refine l_2 C dL_law_852 ?_
  refine l_call (st := [.int v]) (As := []) C cv_L_103 hd' dL_law_853 hf2 hr2 rfl (Nat.le_of_ble_eq_true rfl) c2 hR1 hR2 rfl ?_
  exact l_eqI C dL_law_856 (by decide) (nx H2 hI2)
theorem cs20 (C : lC p s m meth c b L xs D dA) (hL : L ≤ 3072) (hi : i = nI iN) (hin : iN + 6 ≤ L) (hI : INV 0 138 k h) (hk : k < 512) (nx : ∀ h2, INV 0 138 (k + 1) h2 → lJ p l e s m below meth c b D dA i h2 1673 []) : lJ p l e s m below meth c b D dA i h 861 [] := by
  obtain ⟨d, d', r, H1, H2, hd, hd', c1, c2, hI2, ⟨hr2, fs2, hf2⟩, ⟨v, rfl⟩⟩ := two_of (m_size (l := l) hI (xs (iN + 1))) (by decide) (by decide)
  obtain ⟨hr1, fs1, hf1⟩ := iv_rc hI
  obtain ⟨hR1, hR2⟩ := iv_rm hI2 hk
  have g1 := c2.1
  have g2 := c2.2.1
  refine l_1 C dL_law_861 ?_
  refine l_arg C hL (n := 1) hi (by omega) (by decide) dL_law_862 dL_law_863 dL_law_864 dL_law_865 dL_law_866 ?_
  refine l_call (st := []) (As := [.int (xs (iN + 1))]) C cv_L_104 hd dL_law_867 hf1 hr1 rfl (by decide) c1 (by omega) (by omega) rfl ?_
  refine l_2 C dL_law_870 ?_
  refine l_arg C hL (n := 1) hi (by omega) (by decide) dL_law_871 dL_law_872 dL_law_873 dL_law_874 dL_law_875 ?_
  refine l_call (st := [.int v]) (As := [.int (xs (iN + 1))]) C cv_L_107 hd' dL_law_876 hf2 hr2 rfl (Nat.le_of_ble_eq_true rfl) c2 hR1 hR2 rfl ?_
  exact l_eqI C dL_law_879 (by decide) (nx H2 hI2)
theorem cs21 (C : lC p s m meth c b L xs D dA) (hL : L ≤ 3072) (hi : i = nI iN) (hin : iN + 6 ≤ L) (hI : INV 0 138 k h) (hk : k < 512) (nx : ∀ h2, INV 0 138 (k + 1) h2 → lJ p l e s m below meth c b D dA i h2 1673 []) : lJ p l e s m below meth c b D dA i h 884 [] := by
  obtain ⟨d, d', r, H1, H2, hd, hd', c1, c2, hI2, ⟨hr2, fs2, hf2⟩, ⟨v, rfl⟩⟩ := two_of (m_thing (l := l) hI (xs (iN + 1)) (xs (iN + 2))) (by decide) (by decide)
  obtain ⟨hr1, fs1, hf1⟩ := iv_rc hI
  obtain ⟨hR1, hR2⟩ := iv_rm hI2 hk
  have g1 := c2.1
  have g2 := c2.2.1
  refine l_1 C dL_law_884 ?_
  refine l_arg C hL (n := 1) hi (by omega) (by decide) dL_law_885 dL_law_886 dL_law_887 dL_law_888 dL_law_889 ?_
  refine l_arg C hL (n := 2) hi (by omega) (by decide) dL_law_890 dL_law_891 dL_law_892 dL_law_893 dL_law_894 ?_
  refine l_call (st := []) (As := [.int (xs (iN + 1)), .int (xs (iN + 2))]) C cv_L_108 hd dL_law_895 hf1 hr1 rfl (by decide) c1 (by omega) (by omega) rfl ?_
  refine l_2 C dL_law_898 ?_
  refine l_arg C hL (n := 1) hi (by omega) (by decide) dL_law_899 dL_law_900 dL_law_901 dL_law_902 dL_law_903 ?_
  refine l_arg C hL (n := 2) hi (by omega) (by decide) dL_law_904 dL_law_905 dL_law_906 dL_law_907 dL_law_908 ?_
  refine l_call (st := [.int v]) (As := [.int (xs (iN + 1)), .int (xs (iN + 2))]) C cv_L_111 hd' dL_law_909 hf2 hr2 rfl (Nat.le_of_ble_eq_true rfl) c2 hR1 hR2 rfl ?_
  exact l_eqI C dL_law_912 (by decide) (nx H2 hI2)
theorem cs22 (C : lC p s m meth c b L xs D dA) (hL : L ≤ 3072) (hi : i = nI iN) (hin : iN + 6 ≤ L) (hI : INV 0 138 k h) (hk : k < 512) (nx : ∀ h2, INV 0 138 (k + 1) h2 → lJ p l e s m below meth c b D dA i h2 1673 []) : lJ p l e s m below meth c b D dA i h 917 [] := by
  obtain ⟨d, d', r, H1, H2, hd, hd', c1, c2, hI2, ⟨hr2, fs2, hf2⟩, ⟨v, rfl⟩⟩ := two_of (m_says (l := l) hI (xs (iN + 1)) (xs (iN + 2))) (by decide) (by decide)
  obtain ⟨hr1, fs1, hf1⟩ := iv_rc hI
  obtain ⟨hR1, hR2⟩ := iv_rm hI2 hk
  have g1 := c2.1
  have g2 := c2.2.1
  refine l_1 C dL_law_917 ?_
  refine l_arg C hL (n := 1) hi (by omega) (by decide) dL_law_918 dL_law_919 dL_law_920 dL_law_921 dL_law_922 ?_
  refine l_arg C hL (n := 2) hi (by omega) (by decide) dL_law_923 dL_law_924 dL_law_925 dL_law_926 dL_law_927 ?_
  refine l_call (st := []) (As := [.int (xs (iN + 1)), .int (xs (iN + 2))]) C cv_L_112 hd dL_law_928 hf1 hr1 rfl (by decide) c1 (by omega) (by omega) rfl ?_
  refine l_2 C dL_law_931 ?_
  refine l_arg C hL (n := 1) hi (by omega) (by decide) dL_law_932 dL_law_933 dL_law_934 dL_law_935 dL_law_936 ?_
  refine l_arg C hL (n := 2) hi (by omega) (by decide) dL_law_937 dL_law_938 dL_law_939 dL_law_940 dL_law_941 ?_
  refine l_call (st := [.int v]) (As := [.int (xs (iN + 1)), .int (xs (iN + 2))]) C cv_L_115 hd' dL_law_942 hf2 hr2 rfl (Nat.le_of_ble_eq_true rfl) c2 hR1 hR2 rfl ?_
  exact l_eqI C dL_law_945 (by decide) (nx H2 hI2)
theorem cs23 (C : lC p s m meth c b L xs D dA) (hL : L ≤ 3072) (hi : i = nI iN) (hin : iN + 6 ≤ L) (hI : INV 0 138 k h) (hk : k < 512) (nx : ∀ h2, INV 0 138 (k + 1) h2 → lJ p l e s m below meth c b D dA i h2 1673 []) : lJ p l e s m below meth c b D dA i h 950 [] := by
  obtain ⟨d, d', r, H1, H2, hd, hd', c1, c2, hI2, ⟨hr2, fs2, hf2⟩, ⟨v, rfl⟩⟩ := two_of (m_key (l := l) hI (xs (iN + 1)) (xs (iN + 2))) (by decide) (by decide)
  obtain ⟨hr1, fs1, hf1⟩ := iv_rc hI
  obtain ⟨hR1, hR2⟩ := iv_rm hI2 hk
  have g1 := c2.1
  have g2 := c2.2.1
  refine l_1 C dL_law_950 ?_
  refine l_arg C hL (n := 1) hi (by omega) (by decide) dL_law_951 dL_law_952 dL_law_953 dL_law_954 dL_law_955 ?_
  refine l_arg C hL (n := 2) hi (by omega) (by decide) dL_law_956 dL_law_957 dL_law_958 dL_law_959 dL_law_960 ?_
  refine l_call (st := []) (As := [.int (xs (iN + 1)), .int (xs (iN + 2))]) C cv_L_116 hd dL_law_961 hf1 hr1 rfl (by decide) c1 (by omega) (by omega) rfl ?_
  refine l_2 C dL_law_964 ?_
  refine l_arg C hL (n := 1) hi (by omega) (by decide) dL_law_965 dL_law_966 dL_law_967 dL_law_968 dL_law_969 ?_
  refine l_arg C hL (n := 2) hi (by omega) (by decide) dL_law_970 dL_law_971 dL_law_972 dL_law_973 dL_law_974 ?_
  refine l_call (st := [.int v]) (As := [.int (xs (iN + 1)), .int (xs (iN + 2))]) C cv_L_119 hd' dL_law_975 hf2 hr2 rfl (Nat.le_of_ble_eq_true rfl) c2 hR1 hR2 rfl ?_
  exact l_eqI C dL_law_978 (by decide) (nx H2 hI2)
theorem cs24 (C : lC p s m meth c b L xs D dA) (hL : L ≤ 3072) (hi : i = nI iN) (hin : iN + 6 ≤ L) (hI : INV 0 138 k h) (hk : k < 512) (nx : ∀ h2, INV 0 138 (k + 1) h2 → lJ p l e s m below meth c b D dA i h2 1673 []) : lJ p l e s m below meth c b D dA i h 983 [] := by
  obtain ⟨d, d', r, H1, H2, hd, hd', c1, c2, hI2, ⟨hr2, fs2, hf2⟩, ⟨v, rfl⟩⟩ := two_of (m_place (l := l) hI (xs (iN + 1)) (xs (iN + 2))) (by decide) (by decide)
  obtain ⟨hr1, fs1, hf1⟩ := iv_rc hI
  obtain ⟨hR1, hR2⟩ := iv_rm hI2 hk
  have g1 := c2.1
  have g2 := c2.2.1
  refine l_1 C dL_law_983 ?_
  refine l_arg C hL (n := 1) hi (by omega) (by decide) dL_law_984 dL_law_985 dL_law_986 dL_law_987 dL_law_988 ?_
  refine l_arg C hL (n := 2) hi (by omega) (by decide) dL_law_989 dL_law_990 dL_law_991 dL_law_992 dL_law_993 ?_
  refine l_call (st := []) (As := [.int (xs (iN + 1)), .int (xs (iN + 2))]) C cv_L_120 hd dL_law_994 hf1 hr1 rfl (by decide) c1 (by omega) (by omega) rfl ?_
  refine l_2 C dL_law_997 ?_
  refine l_arg C hL (n := 1) hi (by omega) (by decide) dL_law_998 dL_law_999 dL_law_1000 dL_law_1001 dL_law_1002 ?_
  refine l_arg C hL (n := 2) hi (by omega) (by decide) dL_law_1003 dL_law_1004 dL_law_1005 dL_law_1006 dL_law_1007 ?_
  refine l_call (st := [.int v]) (As := [.int (xs (iN + 1)), .int (xs (iN + 2))]) C cv_L_123 hd' dL_law_1008 hf2 hr2 rfl (Nat.le_of_ble_eq_true rfl) c2 hR1 hR2 rfl ?_
  exact l_eqI C dL_law_1011 (by decide) (nx H2 hI2)
theorem cs25 (C : lC p s m meth c b L xs D dA) (hL : L ≤ 3072) (hi : i = nI iN) (hin : iN + 6 ≤ L) (hI : INV 0 138 k h) (hk : k < 512) (nx : ∀ h2, INV 0 138 (k + 1) h2 → lJ p l e s m below meth c b D dA i h2 1673 []) : lJ p l e s m below meth c b D dA i h 1016 [] := by
  obtain ⟨d, d', r, H1, H2, hd, hd', c1, c2, hI2, ⟨hr2, fs2, hf2⟩, ⟨v, rfl⟩⟩ := two_of (m_like (l := l) hI (xs (iN + 1)) (xs (iN + 2))) (by decide) (by decide)
  obtain ⟨hr1, fs1, hf1⟩ := iv_rc hI
  obtain ⟨hR1, hR2⟩ := iv_rm hI2 hk
  have g1 := c2.1
  have g2 := c2.2.1
  refine l_1 C dL_law_1016 ?_
  refine l_arg C hL (n := 1) hi (by omega) (by decide) dL_law_1017 dL_law_1018 dL_law_1019 dL_law_1020 dL_law_1021 ?_
  refine l_arg C hL (n := 2) hi (by omega) (by decide) dL_law_1022 dL_law_1023 dL_law_1024 dL_law_1025 dL_law_1026 ?_
  refine l_call (st := []) (As := [.int (xs (iN + 1)), .int (xs (iN + 2))]) C cv_L_124 hd dL_law_1027 hf1 hr1 rfl (by decide) c1 (by omega) (by omega) rfl ?_
  refine l_2 C dL_law_1030 ?_
  refine l_arg C hL (n := 1) hi (by omega) (by decide) dL_law_1031 dL_law_1032 dL_law_1033 dL_law_1034 dL_law_1035 ?_
  refine l_arg C hL (n := 2) hi (by omega) (by decide) dL_law_1036 dL_law_1037 dL_law_1038 dL_law_1039 dL_law_1040 ?_
  refine l_call (st := [.int v]) (As := [.int (xs (iN + 1)), .int (xs (iN + 2))]) C cv_L_127 hd' dL_law_1041 hf2 hr2 rfl (Nat.le_of_ble_eq_true rfl) c2 hR1 hR2 rfl ?_
  exact l_eqI C dL_law_1044 (by decide) (nx H2 hI2)
theorem cs26 (C : lC p s m meth c b L xs D dA) (hL : L ≤ 3072) (hi : i = nI iN) (hin : iN + 6 ≤ L) (hI : INV 0 138 k h) (hk : k < 512) (nx : ∀ h2, INV 0 138 (k + 1) h2 → lJ p l e s m below meth c b D dA i h2 1673 []) : lJ p l e s m below meth c b D dA i h 1049 [] := by
  obtain ⟨d, d', r, H1, H2, hd, hd', c1, c2, hI2, ⟨hr2, fs2, hf2⟩, ⟨v, rfl⟩⟩ := two_of (m_apart (l := l) hI (xs (iN + 1)) (xs (iN + 2))) (by decide) (by decide)
  obtain ⟨hr1, fs1, hf1⟩ := iv_rc hI
  obtain ⟨hR1, hR2⟩ := iv_rm hI2 hk
  have g1 := c2.1
  have g2 := c2.2.1
  refine l_1 C dL_law_1049 ?_
  refine l_arg C hL (n := 1) hi (by omega) (by decide) dL_law_1050 dL_law_1051 dL_law_1052 dL_law_1053 dL_law_1054 ?_
  refine l_arg C hL (n := 2) hi (by omega) (by decide) dL_law_1055 dL_law_1056 dL_law_1057 dL_law_1058 dL_law_1059 ?_
  refine l_call (st := []) (As := [.int (xs (iN + 1)), .int (xs (iN + 2))]) C cv_L_128 hd dL_law_1060 hf1 hr1 rfl (by decide) c1 (by omega) (by omega) rfl ?_
  refine l_2 C dL_law_1063 ?_
  refine l_arg C hL (n := 1) hi (by omega) (by decide) dL_law_1064 dL_law_1065 dL_law_1066 dL_law_1067 dL_law_1068 ?_
  refine l_arg C hL (n := 2) hi (by omega) (by decide) dL_law_1069 dL_law_1070 dL_law_1071 dL_law_1072 dL_law_1073 ?_
  refine l_call (st := [.int v]) (As := [.int (xs (iN + 1)), .int (xs (iN + 2))]) C cv_L_131 hd' dL_law_1074 hf2 hr2 rfl (Nat.le_of_ble_eq_true rfl) c2 hR1 hR2 rfl ?_
  exact l_eqI C dL_law_1077 (by decide) (nx H2 hI2)
theorem cs27 (C : lC p s m meth c b L xs D dA) (hL : L ≤ 3072) (hi : i = nI iN) (hin : iN + 6 ≤ L) (hI : INV 0 138 k h) (hk : k < 512) (nx : ∀ h2, INV 0 138 (k + 1) h2 → lJ p l e s m below meth c b D dA i h2 1673 []) : lJ p l e s m below meth c b D dA i h 1082 [] := by
  obtain ⟨d, d', r, H1, H2, hd, hd', c1, c2, hI2, ⟨hr2, fs2, hf2⟩, ⟨v, rfl⟩⟩ := two_of (m_quarrels (l := l) hI (xs (iN + 1))) (by decide) (by decide)
  obtain ⟨hr1, fs1, hf1⟩ := iv_rc hI
  obtain ⟨hR1, hR2⟩ := iv_rm hI2 hk
  have g1 := c2.1
  have g2 := c2.2.1
  refine l_1 C dL_law_1082 ?_
  refine l_arg C hL (n := 1) hi (by omega) (by decide) dL_law_1083 dL_law_1084 dL_law_1085 dL_law_1086 dL_law_1087 ?_
  refine l_call (st := []) (As := [.int (xs (iN + 1))]) C cv_L_132 hd dL_law_1088 hf1 hr1 rfl (by decide) c1 (by omega) (by omega) rfl ?_
  refine l_2 C dL_law_1091 ?_
  refine l_arg C hL (n := 1) hi (by omega) (by decide) dL_law_1092 dL_law_1093 dL_law_1094 dL_law_1095 dL_law_1096 ?_
  refine l_call (st := [.int v]) (As := [.int (xs (iN + 1))]) C cv_L_135 hd' dL_law_1097 hf2 hr2 rfl (Nat.le_of_ble_eq_true rfl) c2 hR1 hR2 rfl ?_
  exact l_eqI C dL_law_1100 (by decide) (nx H2 hI2)
theorem cs28 (C : lC p s m meth c b L xs D dA) (hL : L ≤ 3072) (hi : i = nI iN) (hin : iN + 6 ≤ L) (hI : INV 0 138 k h) (hk : k < 512) (nx : ∀ h2, INV 0 138 (k + 1) h2 → lJ p l e s m below meth c b D dA i h2 1673 []) : lJ p l e s m below meth c b D dA i h 1105 [] := by
  obtain ⟨d, d', r, H1, H2, hd, hd', c1, c2, hI2, ⟨hr2, fs2, hf2⟩, ⟨v, rfl⟩⟩ := two_of (m_with (l := l) hI (xs (iN + 1)) (xs (iN + 2))) (by decide) (by decide)
  obtain ⟨hr1, fs1, hf1⟩ := iv_rc hI
  obtain ⟨hR1, hR2⟩ := iv_rm hI2 hk
  have g1 := c2.1
  have g2 := c2.2.1
  refine l_1 C dL_law_1105 ?_
  refine l_arg C hL (n := 1) hi (by omega) (by decide) dL_law_1106 dL_law_1107 dL_law_1108 dL_law_1109 dL_law_1110 ?_
  refine l_arg C hL (n := 2) hi (by omega) (by decide) dL_law_1111 dL_law_1112 dL_law_1113 dL_law_1114 dL_law_1115 ?_
  refine l_call (st := []) (As := [.int (xs (iN + 1)), .int (xs (iN + 2))]) C cv_L_136 hd dL_law_1116 hf1 hr1 rfl (by decide) c1 (by omega) (by omega) rfl ?_
  refine l_2 C dL_law_1119 ?_
  refine l_arg C hL (n := 1) hi (by omega) (by decide) dL_law_1120 dL_law_1121 dL_law_1122 dL_law_1123 dL_law_1124 ?_
  refine l_arg C hL (n := 2) hi (by omega) (by decide) dL_law_1125 dL_law_1126 dL_law_1127 dL_law_1128 dL_law_1129 ?_
  refine l_call (st := [.int v]) (As := [.int (xs (iN + 1)), .int (xs (iN + 2))]) C cv_L_139 hd' dL_law_1130 hf2 hr2 rfl (Nat.le_of_ble_eq_true rfl) c2 hR1 hR2 rfl ?_
  exact l_eqI C dL_law_1133 (by decide) (nx H2 hI2)
theorem cs29 (C : lC p s m meth c b L xs D dA) (hL : L ≤ 3072) (hi : i = nI iN) (hin : iN + 6 ≤ L) (hI : INV 0 138 k h) (hk : k < 512) (nx : ∀ h2, INV 0 138 (k + 1) h2 → lJ p l e s m below meth c b D dA i h2 1673 []) : lJ p l e s m below meth c b D dA i h 1138 [] := by
  obtain ⟨d, d', r, H1, H2, hd, hd', c1, c2, hI2, ⟨hr2, fs2, hf2⟩, ⟨v, rfl⟩⟩ := m_leastOut (l := l) hI (xs (iN + 1))
  obtain ⟨hr1, fs1, hf1⟩ := iv_rc hI
  obtain ⟨hR1, hR2⟩ := iv_rm hI2 hk
  have g1 := c2.1
  have g2 := c2.2.1
  refine l_1 C dL_law_1138 ?_
  refine l_arg C hL (n := 1) hi (by omega) (by decide) dL_law_1139 dL_law_1140 dL_law_1141 dL_law_1142 dL_law_1143 ?_
  refine l_call (st := []) (As := [.int (xs (iN + 1))]) C cv_L_140 hd dL_law_1144 hf1 hr1 rfl (by decide) c1 (by omega) (by omega) rfl ?_
  refine l_2 C dL_law_1147 ?_
  refine l_arg C hL (n := 1) hi (by omega) (by decide) dL_law_1148 dL_law_1149 dL_law_1150 dL_law_1151 dL_law_1152 ?_
  refine l_call (st := [.int v]) (As := [.int (xs (iN + 1))]) C cv_L_143 hd' dL_law_1153 hf2 hr2 rfl (Nat.le_of_ble_eq_true rfl) c2 hR1 hR2 rfl ?_
  exact l_eqI C dL_law_1156 (by decide) (nx H2 hI2)
theorem cs30 (C : lC p s m meth c b L xs D dA) (hL : L ≤ 3072) (hi : i = nI iN) (hin : iN + 6 ≤ L) (hI : INV 0 138 k h) (hk : k < 512) (nx : ∀ h2, INV 0 138 (k + 1) h2 → lJ p l e s m below meth c b D dA i h2 1673 []) : lJ p l e s m below meth c b D dA i h 1161 [] := by
  obtain ⟨d, d', r, H1, H2, hd, hd', c1, c2, hI2, ⟨hr2, fs2, hf2⟩, ⟨v, rfl⟩⟩ := m_mostQuiet (l := l) hI
  obtain ⟨hr1, fs1, hf1⟩ := iv_rc hI
  obtain ⟨hR1, hR2⟩ := iv_rm hI2 hk
  have g1 := c2.1
  have g2 := c2.2.1
  refine l_1 C dL_law_1161 ?_
  refine l_call (st := []) (As := []) C cv_L_144 hd dL_law_1162 hf1 hr1 rfl (by decide) c1 (by omega) (by omega) rfl ?_
  refine l_2 C dL_law_1165 ?_
  refine l_call (st := [.int v]) (As := []) C cv_L_147 hd' dL_law_1166 hf2 hr2 rfl (Nat.le_of_ble_eq_true rfl) c2 hR1 hR2 rfl ?_
  exact l_eqI C dL_law_1169 (by decide) (nx H2 hI2)
theorem cs31 (C : lC p s m meth c b L xs D dA) (hL : L ≤ 3072) (hi : i = nI iN) (hin : iN + 6 ≤ L) (hI : INV 0 138 k h) (hk : k < 512) (nx : ∀ h2, INV 0 138 (k + 1) h2 → lJ p l e s m below meth c b D dA i h2 1673 []) : lJ p l e s m below meth c b D dA i h 1174 [] := by
  obtain ⟨d, d', r, H1, H2, hd, hd', c1, c2, hI2, ⟨hr2, fs2, hf2⟩, ⟨v, rfl⟩⟩ := m_orders (l := l) hI (by omega) (xs (iN + 1))
  obtain ⟨hr1, fs1, hf1⟩ := iv_rc hI
  obtain ⟨hR1, hR2⟩ := iv_rm hI2 hk
  have g1 := c2.1
  have g2 := c2.2.1
  refine l_1 C dL_law_1174 ?_
  refine l_arg C hL (n := 1) hi (by omega) (by decide) dL_law_1175 dL_law_1176 dL_law_1177 dL_law_1178 dL_law_1179 ?_
  refine l_call (st := []) (As := [.int (xs (iN + 1))]) C cv_L_148 hd dL_law_1180 hf1 hr1 rfl (by decide) c1 (by omega) (by omega) rfl ?_
  refine l_2 C dL_law_1183 ?_
  refine l_arg C hL (n := 1) hi (by omega) (by decide) dL_law_1184 dL_law_1185 dL_law_1186 dL_law_1187 dL_law_1188 ?_
  refine l_call (st := [.long v]) (As := [.int (xs (iN + 1))]) C cv_L_152 hd' dL_law_1189 hf2 hr2 rfl (Nat.le_of_ble_eq_true rfl) c2 hR1 hR2 rfl ?_
  exact l_eqL C dL_law_1192 dL_law_1193 (by decide) (nx H2 hI2)
theorem cs32 (C : lC p s m meth c b L xs D dA) (hL : L ≤ 3072) (hi : i = nI iN) (hin : iN + 6 ≤ L) (hI : INV 0 138 k h) (hk : k < 512) (nx : ∀ h2, INV 0 138 (k + 1) h2 → lJ p l e s m below meth c b D dA i h2 1673 []) : lJ p l e s m below meth c b D dA i h 1198 [] := by
  obtain ⟨d, d', r, H1, H2, hd, hd', c1, c2, hI2, ⟨hr2, fs2, hf2⟩, ⟨v, rfl⟩⟩ := m_ahead (l := l) hI (by omega) (xs (iN + 1)) (xs (iN + 2)) (xs (iN + 3))
  obtain ⟨hr1, fs1, hf1⟩ := iv_rc hI
  obtain ⟨hR1, hR2⟩ := iv_rm hI2 hk
  have g1 := c2.1
  have g2 := c2.2.1
  refine l_1 C dL_law_1198 ?_
  refine l_arg C hL (n := 1) hi (by omega) (by decide) dL_law_1199 dL_law_1200 dL_law_1201 dL_law_1202 dL_law_1203 ?_
  refine l_arg C hL (n := 2) hi (by omega) (by decide) dL_law_1204 dL_law_1205 dL_law_1206 dL_law_1207 dL_law_1208 ?_
  refine l_arg C hL (n := 3) hi (by omega) (by decide) dL_law_1209 dL_law_1210 dL_law_1211 dL_law_1212 dL_law_1213 ?_
  refine l_call (st := []) (As := [.int (xs (iN + 1)), .int (xs (iN + 2)), .int (xs (iN + 3))]) C cv_L_153 hd dL_law_1214 hf1 hr1 rfl (by decide) c1 (by omega) (by omega) rfl ?_
  refine l_2 C dL_law_1217 ?_
  refine l_arg C hL (n := 1) hi (by omega) (by decide) dL_law_1218 dL_law_1219 dL_law_1220 dL_law_1221 dL_law_1222 ?_
  refine l_arg C hL (n := 2) hi (by omega) (by decide) dL_law_1223 dL_law_1224 dL_law_1225 dL_law_1226 dL_law_1227 ?_
  refine l_arg C hL (n := 3) hi (by omega) (by decide) dL_law_1228 dL_law_1229 dL_law_1230 dL_law_1231 dL_law_1232 ?_
  refine l_call (st := [.int v]) (As := [.int (xs (iN + 1)), .int (xs (iN + 2)), .int (xs (iN + 3))]) C cv_L_156 hd' dL_law_1233 hf2 hr2 rfl (Nat.le_of_ble_eq_true rfl) c2 hR1 hR2 rfl ?_
  exact l_eqI C dL_law_1236 (by decide) (nx H2 hI2)
theorem cs33 (C : lC p s m meth c b L xs D dA) (hL : L ≤ 3072) (hi : i = nI iN) (hin : iN + 6 ≤ L) (hI : INV 0 138 k h) (hk : k < 512) (nx : ∀ h2, INV 0 138 (k + 1) h2 → lJ p l e s m below meth c b D dA i h2 1673 []) : lJ p l e s m below meth c b D dA i h 1241 [] := by
  obtain ⟨d, d', r, H1, H2, hd, hd', c1, c2, hI2, ⟨hr2, fs2, hf2⟩, ⟨v, rfl⟩⟩ := m_ordered (l := l) hI (by omega) (xs (iN + 1)) ((((xs (iN + 2)).toInt64 <<< ((32 : Int32).toInt64 &&& 63)) ||| ((xs (iN + 3)).toInt64 &&& 4294967295)))
  obtain ⟨hr1, fs1, hf1⟩ := iv_rc hI
  obtain ⟨hR1, hR2⟩ := iv_rm hI2 hk
  have g1 := c2.1
  have g2 := c2.2.1
  refine l_1 C dL_law_1241 ?_
  refine l_arg C hL (n := 1) hi (by omega) (by decide) dL_law_1242 dL_law_1243 dL_law_1244 dL_law_1245 dL_law_1246 ?_
  refine l_arg C hL (n := 2) hi (by omega) (by decide) dL_law_1247 dL_law_1248 dL_law_1249 dL_law_1250 dL_law_1251 ?_
  refine l_i2l C dL_law_1252 ?_
  refine ll_shl C dL_law_1253 dL_law_1255 ?_
  refine l_arg C hL (n := 3) hi (by omega) (by decide) dL_law_1256 dL_law_1257 dL_law_1258 dL_law_1259 dL_law_1260 ?_
  refine l_i2l C dL_law_1261 ?_
  refine ll_or C dL_law_1262 dL_law_1265 dL_law_1266 ?_
  refine l_call (st := []) (As := [.int (xs (iN + 1)), .long ((((xs (iN + 2)).toInt64 <<< ((32 : Int32).toInt64 &&& 63)) ||| ((xs (iN + 3)).toInt64 &&& 4294967295)))]) C cv_L_157 hd dL_law_1267 hf1 hr1 rfl (by decide) c1 (by omega) (by omega) rfl ?_
  refine l_2 C dL_law_1270 ?_
  refine l_arg C hL (n := 1) hi (by omega) (by decide) dL_law_1271 dL_law_1272 dL_law_1273 dL_law_1274 dL_law_1275 ?_
  refine l_arg C hL (n := 2) hi (by omega) (by decide) dL_law_1276 dL_law_1277 dL_law_1278 dL_law_1279 dL_law_1280 ?_
  refine l_i2l C dL_law_1281 ?_
  refine ll_shl C dL_law_1282 dL_law_1284 ?_
  refine l_arg C hL (n := 3) hi (by omega) (by decide) dL_law_1285 dL_law_1286 dL_law_1287 dL_law_1288 dL_law_1289 ?_
  refine l_i2l C dL_law_1290 ?_
  refine ll_or C dL_law_1291 dL_law_1294 dL_law_1295 ?_
  refine l_call (st := [.int v]) (As := [.int (xs (iN + 1)), .long ((((xs (iN + 2)).toInt64 <<< ((32 : Int32).toInt64 &&& 63)) ||| ((xs (iN + 3)).toInt64 &&& 4294967295)))]) C cv_L_161 hd' dL_law_1296 hf2 hr2 rfl (Nat.le_of_ble_eq_true rfl) c2 hR1 hR2 rfl ?_
  exact l_eqI C dL_law_1299 (by decide) (nx H2 hI2)
theorem cs34 (C : lC p s m meth c b L xs D dA) (hL : L ≤ 3072) (hi : i = nI iN) (hin : iN + 6 ≤ L) (hI : INV 0 138 k h) (hk : k < 512) (nx : ∀ h2, INV 0 138 (k + 1) h2 → lJ p l e s m below meth c b D dA i h2 1673 []) : lJ p l e s m below meth c b D dA i h 1304 [] := by
  obtain ⟨d, d', r, H1, H2, hd, hd', c1, c2, hI2, ⟨hr2, fs2, hf2⟩, ⟨v, rfl⟩⟩ := two_of (m_order (l := l) hI (xs (iN + 1)) (xs (iN + 2))) (by decide) (by decide)
  obtain ⟨hr1, fs1, hf1⟩ := iv_rc hI
  obtain ⟨hR1, hR2⟩ := iv_rm hI2 hk
  have g1 := c2.1
  have g2 := c2.2.1
  refine l_1 C dL_law_1304 ?_
  refine l_arg C hL (n := 1) hi (by omega) (by decide) dL_law_1305 dL_law_1306 dL_law_1307 dL_law_1308 dL_law_1309 ?_
  refine l_arg C hL (n := 2) hi (by omega) (by decide) dL_law_1310 dL_law_1311 dL_law_1312 dL_law_1313 dL_law_1314 ?_
  refine l_call (st := []) (As := [.int (xs (iN + 1)), .int (xs (iN + 2))]) C cv_L_162 hd dL_law_1315 hf1 hr1 rfl (by decide) c1 (by omega) (by omega) rfl ?_
  refine l_2 C dL_law_1318 ?_
  refine l_arg C hL (n := 1) hi (by omega) (by decide) dL_law_1319 dL_law_1320 dL_law_1321 dL_law_1322 dL_law_1323 ?_
  refine l_arg C hL (n := 2) hi (by omega) (by decide) dL_law_1324 dL_law_1325 dL_law_1326 dL_law_1327 dL_law_1328 ?_
  refine l_call (st := [.int v]) (As := [.int (xs (iN + 1)), .int (xs (iN + 2))]) C cv_L_166 hd' dL_law_1329 hf2 hr2 rfl (Nat.le_of_ble_eq_true rfl) c2 hR1 hR2 rfl ?_
  exact l_eqI C dL_law_1332 (by decide) (nx H2 hI2)
theorem cs35 (C : lC p s m meth c b L xs D dA) (hL : L ≤ 3072) (hi : i = nI iN) (hin : iN + 6 ≤ L) (hI : INV 0 138 k h) (hk : k < 512) (nx : ∀ h2, INV 0 138 (k + 1) h2 → lJ p l e s m below meth c b D dA i h2 1673 []) : lJ p l e s m below meth c b D dA i h 1337 [] := by
  obtain ⟨d, d', r, H1, H2, hd, hd', c1, c2, hI2, ⟨hr2, fs2, hf2⟩, ⟨v, rfl⟩⟩ := m_number (l := l) hI (by omega)
  obtain ⟨hr1, fs1, hf1⟩ := iv_rc hI
  obtain ⟨hR1, hR2⟩ := iv_rm hI2 hk
  have g1 := c2.1
  have g2 := c2.2.1
  refine l_1 C dL_law_1337 ?_
  refine l_call (st := []) (As := []) C cv_L_167 hd dL_law_1338 hf1 hr1 rfl (by decide) c1 (by omega) (by omega) rfl ?_
  refine l_2 C dL_law_1341 ?_
  refine l_call (st := [.long v]) (As := []) C cv_L_170 hd' dL_law_1342 hf2 hr2 rfl (Nat.le_of_ble_eq_true rfl) c2 hR1 hR2 rfl ?_
  exact l_eqL C dL_law_1345 dL_law_1346 (by decide) (nx H2 hI2)
theorem cs36 (C : lC p s m meth c b L xs D dA) (hL : L ≤ 3072) (hi : i = nI iN) (hin : iN + 6 ≤ L) (hI : INV 0 138 k h) (hk : k < 512) (nx : ∀ h2, INV 0 138 (k + 1) h2 → lJ p l e s m below meth c b D dA i h2 1673 []) : lJ p l e s m below meth c b D dA i h 1351 [] := by
  obtain ⟨d, d', r, H1, H2, hd, hd', c1, c2, hI2, ⟨hr2, fs2, hf2⟩, ⟨v, rfl⟩⟩ := two_of (m_orderAt (l := l) hI (xs (iN + 1))) (by decide) (by decide)
  obtain ⟨hr1, fs1, hf1⟩ := iv_rc hI
  obtain ⟨hR1, hR2⟩ := iv_rm hI2 hk
  have g1 := c2.1
  have g2 := c2.2.1
  refine l_1 C dL_law_1351 ?_
  refine l_arg C hL (n := 1) hi (by omega) (by decide) dL_law_1352 dL_law_1353 dL_law_1354 dL_law_1355 dL_law_1356 ?_
  refine l_call (st := []) (As := [.int (xs (iN + 1))]) C cv_L_171 hd dL_law_1357 hf1 hr1 rfl (by decide) c1 (by omega) (by omega) rfl ?_
  refine l_2 C dL_law_1360 ?_
  refine l_arg C hL (n := 1) hi (by omega) (by decide) dL_law_1361 dL_law_1362 dL_law_1363 dL_law_1364 dL_law_1365 ?_
  refine l_call (st := [.int v]) (As := [.int (xs (iN + 1))]) C cv_L_174 hd' dL_law_1366 hf2 hr2 rfl (Nat.le_of_ble_eq_true rfl) c2 hR1 hR2 rfl ?_
  exact l_eqI C dL_law_1369 (by decide) (nx H2 hI2)
theorem cs37 (C : lC p s m meth c b L xs D dA) (hL : L ≤ 3072) (hi : i = nI iN) (hin : iN + 6 ≤ L) (hI : INV 0 138 k h) (hk : k < 512) (nx : ∀ h2, INV 0 138 (k + 1) h2 → lJ p l e s m below meth c b D dA i h2 1673 []) : lJ p l e s m below meth c b D dA i h 1374 [] := by
  obtain ⟨d, d', r, H1, H2, hd, hd', c1, c2, hI2, ⟨hr2, fs2, hf2⟩, ⟨v, rfl⟩⟩ := two_of (m_acts (l := l) hI (xs (iN + 1))) (by decide) (by decide)
  obtain ⟨hr1, fs1, hf1⟩ := iv_rc hI
  obtain ⟨hR1, hR2⟩ := iv_rm hI2 hk
  have g1 := c2.1
  have g2 := c2.2.1
  refine l_1 C dL_law_1374 ?_
  refine l_arg C hL (n := 1) hi (by omega) (by decide) dL_law_1375 dL_law_1376 dL_law_1377 dL_law_1378 dL_law_1379 ?_
  refine l_call (st := []) (As := [.int (xs (iN + 1))]) C cv_L_175 hd dL_law_1380 hf1 hr1 rfl (by decide) c1 (by omega) (by omega) rfl ?_
  refine l_2 C dL_law_1383 ?_
  refine l_arg C hL (n := 1) hi (by omega) (by decide) dL_law_1384 dL_law_1385 dL_law_1386 dL_law_1387 dL_law_1388 ?_
  refine l_call (st := [.int v]) (As := [.int (xs (iN + 1))]) C cv_L_178 hd' dL_law_1389 hf2 hr2 rfl (Nat.le_of_ble_eq_true rfl) c2 hR1 hR2 rfl ?_
  exact l_eqI C dL_law_1392 (by decide) (nx H2 hI2)
theorem cs38 (C : lC p s m meth c b L xs D dA) (hL : L ≤ 3072) (hi : i = nI iN) (hin : iN + 6 ≤ L) (hI : INV 0 138 k h) (hk : k < 512) (nx : ∀ h2, INV 0 138 (k + 1) h2 → lJ p l e s m below meth c b D dA i h2 1673 []) : lJ p l e s m below meth c b D dA i h 1397 [] := by
  obtain ⟨d, d', r, H1, H2, hd, hd', c1, c2, hI2, ⟨hr2, fs2, hf2⟩, ⟨v, rfl⟩⟩ := two_of (m_swap (l := l) hI (xs (iN + 1))) (by decide) (by decide)
  obtain ⟨hr1, fs1, hf1⟩ := iv_rc hI
  obtain ⟨hR1, hR2⟩ := iv_rm hI2 hk
  have g1 := c2.1
  have g2 := c2.2.1
  refine l_1 C dL_law_1397 ?_
  refine l_arg C hL (n := 1) hi (by omega) (by decide) dL_law_1398 dL_law_1399 dL_law_1400 dL_law_1401 dL_law_1402 ?_
  refine l_call (st := []) (As := [.int (xs (iN + 1))]) C cv_L_179 hd dL_law_1403 hf1 hr1 rfl (by decide) c1 (by omega) (by omega) rfl ?_
  refine l_2 C dL_law_1406 ?_
  refine l_arg C hL (n := 1) hi (by omega) (by decide) dL_law_1407 dL_law_1408 dL_law_1409 dL_law_1410 dL_law_1411 ?_
  refine l_call (st := [.int v]) (As := [.int (xs (iN + 1))]) C cv_L_183 hd' dL_law_1412 hf2 hr2 rfl (Nat.le_of_ble_eq_true rfl) c2 hR1 hR2 rfl ?_
  exact l_eqI C dL_law_1415 (by decide) (nx H2 hI2)
theorem cs39 (C : lC p s m meth c b L xs D dA) (hL : L ≤ 3072) (hi : i = nI iN) (hin : iN + 6 ≤ L) (hI : INV 0 138 k h) (hk : k < 512) (nx : ∀ h2, INV 0 138 (k + 1) h2 → lJ p l e s m below meth c b D dA i h2 1673 []) : lJ p l e s m below meth c b D dA i h 1420 [] := by
  obtain ⟨d, d', r, H1, H2, hd, hd', c1, c2, hI2, ⟨hr2, fs2, hf2⟩, ⟨v, rfl⟩⟩ := two_of (m_forward (l := l) hI (xs (iN + 1))) (by decide) (by decide)
  obtain ⟨hr1, fs1, hf1⟩ := iv_rc hI
  obtain ⟨hR1, hR2⟩ := iv_rm hI2 hk
  have g1 := c2.1
  have g2 := c2.2.1
  refine l_1 C dL_law_1420 ?_
  refine l_arg C hL (n := 1) hi (by omega) (by decide) dL_law_1421 dL_law_1422 dL_law_1423 dL_law_1424 dL_law_1425 ?_
  refine l_call (st := []) (As := [.int (xs (iN + 1))]) C cv_L_184 hd dL_law_1426 hf1 hr1 rfl (by decide) c1 (by omega) (by omega) rfl ?_
  refine l_2 C dL_law_1429 ?_
  refine l_arg C hL (n := 1) hi (by omega) (by decide) dL_law_1430 dL_law_1431 dL_law_1432 dL_law_1433 dL_law_1434 ?_
  refine l_call (st := [.int v]) (As := [.int (xs (iN + 1))]) C cv_L_187 hd' dL_law_1435 hf2 hr2 rfl (Nat.le_of_ble_eq_true rfl) c2 hR1 hR2 rfl ?_
  exact l_eqI C dL_law_1438 (by decide) (nx H2 hI2)
theorem cs40 (C : lC p s m meth c b L xs D dA) (hL : L ≤ 3072) (hi : i = nI iN) (hin : iN + 6 ≤ L) (hI : INV 0 138 k h) (hk : k < 512) (nx : ∀ h2, INV 0 138 (k + 1) h2 → lJ p l e s m below meth c b D dA i h2 1673 []) : lJ p l e s m below meth c b D dA i h 1443 [] := by
  obtain ⟨d, d', r, H1, H2, hd, hd', c1, c2, hI2, ⟨hr2, fs2, hf2⟩, ⟨v, rfl⟩⟩ := two_of (m_swaps (l := l) hI) (by decide) (by decide)
  obtain ⟨hr1, fs1, hf1⟩ := iv_rc hI
  obtain ⟨hR1, hR2⟩ := iv_rm hI2 hk
  have g1 := c2.1
  have g2 := c2.2.1
  refine l_1 C dL_law_1443 ?_
  refine l_call (st := []) (As := []) C cv_L_188 hd dL_law_1444 hf1 hr1 rfl (by decide) c1 (by omega) (by omega) rfl ?_
  refine l_2 C dL_law_1447 ?_
  refine l_call (st := [.int v]) (As := []) C cv_L_191 hd' dL_law_1448 hf2 hr2 rfl (Nat.le_of_ble_eq_true rfl) c2 hR1 hR2 rfl ?_
  exact l_eqI C dL_law_1451 (by decide) (nx H2 hI2)
theorem cs41 (C : lC p s m meth c b L xs D dA) (hL : L ≤ 3072) (hi : i = nI iN) (hin : iN + 6 ≤ L) (hI : INV 0 138 k h) (hk : k < 512) (nx : ∀ h2, INV 0 138 (k + 1) h2 → lJ p l e s m below meth c b D dA i h2 1673 []) : lJ p l e s m below meth c b D dA i h 1456 [] := by
  obtain ⟨d, d', r, H1, H2, hd, hd', c1, c2, hI2, ⟨hr2, fs2, hf2⟩, ⟨v, rfl⟩⟩ := two_of (m_has (l := l) hI (xs (iN + 1))) (by decide) (by decide)
  obtain ⟨hr1, fs1, hf1⟩ := iv_rc hI
  obtain ⟨hR1, hR2⟩ := iv_rm hI2 hk
  have g1 := c2.1
  have g2 := c2.2.1
  refine l_1 C dL_law_1456 ?_
  refine l_arg C hL (n := 1) hi (by omega) (by decide) dL_law_1457 dL_law_1458 dL_law_1459 dL_law_1460 dL_law_1461 ?_
  refine l_call (st := []) (As := [.int (xs (iN + 1))]) C cv_L_192 hd dL_law_1462 hf1 hr1 rfl (by decide) c1 (by omega) (by omega) rfl ?_
  refine l_2 C dL_law_1465 ?_
  refine l_arg C hL (n := 1) hi (by omega) (by decide) dL_law_1466 dL_law_1467 dL_law_1468 dL_law_1469 dL_law_1470 ?_
  refine l_call (st := [.int v]) (As := [.int (xs (iN + 1))]) C cv_L_195 hd' dL_law_1471 hf2 hr2 rfl (Nat.le_of_ble_eq_true rfl) c2 hR1 hR2 rfl ?_
  exact l_eqI C dL_law_1474 (by decide) (nx H2 hI2)
theorem cs42 (C : lC p s m meth c b L xs D dA) (hL : L ≤ 3072) (hi : i = nI iN) (hin : iN + 6 ≤ L) (hI : INV 0 138 k h) (hk : k < 512) (nx : ∀ h2, INV 0 138 (k + 1) h2 → lJ p l e s m below meth c b D dA i h2 1673 []) : lJ p l e s m below meth c b D dA i h 1479 [] := by
  obtain ⟨d, d', r, H1, H2, hd, hd', c1, c2, hI2, ⟨hr2, fs2, hf2⟩, ⟨v, rfl⟩⟩ := two_of (m_give (l := l) hI (xs (iN + 1)) (xs (iN + 2))) (by decide) (by decide)
  obtain ⟨hr1, fs1, hf1⟩ := iv_rc hI
  obtain ⟨hR1, hR2⟩ := iv_rm hI2 hk
  have g1 := c2.1
  have g2 := c2.2.1
  refine l_1 C dL_law_1479 ?_
  refine l_arg C hL (n := 1) hi (by omega) (by decide) dL_law_1480 dL_law_1481 dL_law_1482 dL_law_1483 dL_law_1484 ?_
  refine l_arg C hL (n := 2) hi (by omega) (by decide) dL_law_1485 dL_law_1486 dL_law_1487 dL_law_1488 dL_law_1489 ?_
  refine l_call (st := []) (As := [.int (xs (iN + 1)), .int (xs (iN + 2))]) C cv_L_196 hd dL_law_1490 hf1 hr1 rfl (by decide) c1 (by omega) (by omega) rfl ?_
  refine l_2 C dL_law_1493 ?_
  refine l_arg C hL (n := 1) hi (by omega) (by decide) dL_law_1494 dL_law_1495 dL_law_1496 dL_law_1497 dL_law_1498 ?_
  refine l_arg C hL (n := 2) hi (by omega) (by decide) dL_law_1499 dL_law_1500 dL_law_1501 dL_law_1502 dL_law_1503 ?_
  refine l_call (st := [.int v]) (As := [.int (xs (iN + 1)), .int (xs (iN + 2))]) C cv_L_199 hd' dL_law_1504 hf2 hr2 rfl (Nat.le_of_ble_eq_true rfl) c2 hR1 hR2 rfl ?_
  exact l_eqI C dL_law_1507 (by decide) (nx H2 hI2)
theorem cs43 (C : lC p s m meth c b L xs D dA) (hL : L ≤ 3072) (hi : i = nI iN) (hin : iN + 6 ≤ L) (hI : INV 0 138 k h) (hk : k < 512) (nx : ∀ h2, INV 0 138 (k + 1) h2 → lJ p l e s m below meth c b D dA i h2 1673 []) : lJ p l e s m below meth c b D dA i h 1512 [] := by
  obtain ⟨d, d', r, H1, H2, hd, hd', c1, c2, hI2, ⟨hr2, fs2, hf2⟩, ⟨v, rfl⟩⟩ := m_sail (l := l) hI (xs (iN + 1))
  obtain ⟨hr1, fs1, hf1⟩ := iv_rc hI
  obtain ⟨hR1, hR2⟩ := iv_rm hI2 hk
  have g1 := c2.1
  have g2 := c2.2.1
  refine l_1 C dL_law_1512 ?_
  refine l_arg C hL (n := 1) hi (by omega) (by decide) dL_law_1513 dL_law_1514 dL_law_1515 dL_law_1516 dL_law_1517 ?_
  refine l_call (st := []) (As := [.int (xs (iN + 1))]) C cv_L_200 hd dL_law_1518 hf1 hr1 rfl (by decide) c1 (by omega) (by omega) rfl ?_
  refine l_2 C dL_law_1521 ?_
  refine l_arg C hL (n := 1) hi (by omega) (by decide) dL_law_1522 dL_law_1523 dL_law_1524 dL_law_1525 dL_law_1526 ?_
  refine l_call (st := [.int v]) (As := [.int (xs (iN + 1))]) C cv_L_203 hd' dL_law_1527 hf2 hr2 rfl (Nat.le_of_ble_eq_true rfl) c2 hR1 hR2 rfl ?_
  exact l_eqI C dL_law_1530 (by decide) (nx H2 hI2)
theorem cs44 (C : lC p s m meth c b L xs D dA) (hL : L ≤ 3072) (hi : i = nI iN) (hin : iN + 6 ≤ L) (hI : INV 0 138 k h) (hk : k < 512) (nx : ∀ h2, INV 0 138 (k + 1) h2 → lJ p l e s m below meth c b D dA i h2 1673 []) : lJ p l e s m below meth c b D dA i h 1535 [] := by
  obtain ⟨d, d', r, H1, H2, hd, hd', c1, c2, hI2, ⟨hr2, fs2, hf2⟩, ⟨v, rfl⟩⟩ := two_of (m_sailed (l := l) hI (xs (iN + 1))) (by decide) (by decide)
  obtain ⟨hr1, fs1, hf1⟩ := iv_rc hI
  obtain ⟨hR1, hR2⟩ := iv_rm hI2 hk
  have g1 := c2.1
  have g2 := c2.2.1
  refine l_1 C dL_law_1535 ?_
  refine l_arg C hL (n := 1) hi (by omega) (by decide) dL_law_1536 dL_law_1537 dL_law_1538 dL_law_1539 dL_law_1540 ?_
  refine l_call (st := []) (As := [.int (xs (iN + 1))]) C cv_L_204 hd dL_law_1541 hf1 hr1 rfl (by decide) c1 (by omega) (by omega) rfl ?_
  refine l_2 C dL_law_1544 ?_
  refine l_arg C hL (n := 1) hi (by omega) (by decide) dL_law_1545 dL_law_1546 dL_law_1547 dL_law_1548 dL_law_1549 ?_
  refine l_call (st := [.int v]) (As := [.int (xs (iN + 1))]) C cv_L_207 hd' dL_law_1550 hf2 hr2 rfl (Nat.le_of_ble_eq_true rfl) c2 hR1 hR2 rfl ?_
  exact l_eqI C dL_law_1553 (by decide) (nx H2 hI2)
theorem cs45 (C : lC p s m meth c b L xs D dA) (hL : L ≤ 3072) (hi : i = nI iN) (hin : iN + 6 ≤ L) (hI : INV 0 138 k h) (hk : k < 512) (nx : ∀ h2, INV 0 138 (k + 1) h2 → lJ p l e s m below meth c b D dA i h2 1673 []) : lJ p l e s m below meth c b D dA i h 1558 [] := by
  obtain ⟨d, d', r, H1, H2, hd, hd', c1, c2, hI2, ⟨hr2, fs2, hf2⟩, ⟨v, rfl⟩⟩ := m_agreed (l := l) hI (xs (iN + 1)) (xs (iN + 2))
  obtain ⟨hr1, fs1, hf1⟩ := iv_rc hI
  obtain ⟨hR1, hR2⟩ := iv_rm hI2 hk
  have g1 := c2.1
  have g2 := c2.2.1
  refine l_1 C dL_law_1558 ?_
  refine l_arg C hL (n := 1) hi (by omega) (by decide) dL_law_1559 dL_law_1560 dL_law_1561 dL_law_1562 dL_law_1563 ?_
  refine l_arg C hL (n := 2) hi (by omega) (by decide) dL_law_1564 dL_law_1565 dL_law_1566 dL_law_1567 dL_law_1568 ?_
  refine l_call (st := []) (As := [.int (xs (iN + 1)), .int (xs (iN + 2))]) C cv_L_208 hd dL_law_1569 hf1 hr1 rfl (by decide) c1 (by omega) (by omega) rfl ?_
  refine l_2 C dL_law_1572 ?_
  refine l_arg C hL (n := 1) hi (by omega) (by decide) dL_law_1573 dL_law_1574 dL_law_1575 dL_law_1576 dL_law_1577 ?_
  refine l_arg C hL (n := 2) hi (by omega) (by decide) dL_law_1578 dL_law_1579 dL_law_1580 dL_law_1581 dL_law_1582 ?_
  refine l_call (st := [.int v]) (As := [.int (xs (iN + 1)), .int (xs (iN + 2))]) C cv_L_211 hd' dL_law_1583 hf2 hr2 rfl (Nat.le_of_ble_eq_true rfl) c2 hR1 hR2 rfl ?_
  exact l_eqI C dL_law_1586 (by decide) (nx H2 hI2)
theorem cs46 (C : lC p s m meth c b L xs D dA) (hL : L ≤ 3072) (hi : i = nI iN) (hin : iN + 6 ≤ L) (hI : INV 0 138 k h) (hk : k < 512) (nx : ∀ h2, INV 0 138 (k + 1) h2 → lJ p l e s m below meth c b D dA i h2 1673 []) : lJ p l e s m below meth c b D dA i h 1591 [] := by
  obtain ⟨d, d', r, H1, H2, hd, hd', c1, c2, hI2, ⟨hr2, fs2, hf2⟩, ⟨v, rfl⟩⟩ := two_of (m_seal (l := l) hI (xs (iN + 1)) (xs (iN + 2))) (by decide) (by decide)
  obtain ⟨hr1, fs1, hf1⟩ := iv_rc hI
  obtain ⟨hR1, hR2⟩ := iv_rm hI2 hk
  have g1 := c2.1
  have g2 := c2.2.1
  refine l_1 C dL_law_1591 ?_
  refine l_arg C hL (n := 1) hi (by omega) (by decide) dL_law_1592 dL_law_1593 dL_law_1594 dL_law_1595 dL_law_1596 ?_
  refine l_arg C hL (n := 2) hi (by omega) (by decide) dL_law_1597 dL_law_1598 dL_law_1599 dL_law_1600 dL_law_1601 ?_
  refine l_call (st := []) (As := [.int (xs (iN + 1)), .int (xs (iN + 2))]) C cv_L_212 hd dL_law_1602 hf1 hr1 rfl (by decide) c1 (by omega) (by omega) rfl ?_
  refine l_2 C dL_law_1605 ?_
  refine l_arg C hL (n := 1) hi (by omega) (by decide) dL_law_1606 dL_law_1607 dL_law_1608 dL_law_1609 dL_law_1610 ?_
  refine l_arg C hL (n := 2) hi (by omega) (by decide) dL_law_1611 dL_law_1612 dL_law_1613 dL_law_1614 dL_law_1615 ?_
  refine l_call (st := [.int v]) (As := [.int (xs (iN + 1)), .int (xs (iN + 2))]) C cv_L_215 hd' dL_law_1616 hf2 hr2 rfl (Nat.le_of_ble_eq_true rfl) c2 hR1 hR2 rfl ?_
  exact l_eqI C dL_law_1619 (by decide) (nx H2 hI2)
theorem cs47 (C : lC p s m meth c b L xs D dA) (hL : L ≤ 3072) (hi : i = nI iN) (hin : iN + 6 ≤ L) (hI : INV 0 138 k h) (hk : k < 512) (nx : ∀ h2, INV 0 138 (k + 1) h2 → lJ p l e s m below meth c b D dA i h2 1673 []) : lJ p l e s m below meth c b D dA i h 1624 [] := by
  obtain ⟨d, d', r, H1, H2, hd, hd', c1, c2, hI2, ⟨hr2, fs2, hf2⟩, ⟨v, rfl⟩⟩ := two_of (m_open (l := l) hI (xs (iN + 1))) (by decide) (by decide)
  obtain ⟨hr1, fs1, hf1⟩ := iv_rc hI
  obtain ⟨hR1, hR2⟩ := iv_rm hI2 hk
  have g1 := c2.1
  have g2 := c2.2.1
  refine l_1 C dL_law_1624 ?_
  refine l_arg C hL (n := 1) hi (by omega) (by decide) dL_law_1625 dL_law_1626 dL_law_1627 dL_law_1628 dL_law_1629 ?_
  refine l_call (st := []) (As := [.int (xs (iN + 1))]) C cv_L_216 hd dL_law_1630 hf1 hr1 rfl (by decide) c1 (by omega) (by omega) rfl ?_
  refine l_2 C dL_law_1633 ?_
  refine l_arg C hL (n := 1) hi (by omega) (by decide) dL_law_1634 dL_law_1635 dL_law_1636 dL_law_1637 dL_law_1638 ?_
  refine l_call (st := [.int v]) (As := [.int (xs (iN + 1))]) C cv_L_219 hd' dL_law_1639 hf2 hr2 rfl (Nat.le_of_ble_eq_true rfl) c2 hR1 hR2 rfl ?_
  exact l_eqI C dL_law_1642 (by decide) (nx H2 hI2)
theorem cs48 (C : lC p s m meth c b L xs D dA) (hL : L ≤ 3072) (hi : i = nI iN) (hin : iN + 6 ≤ L) (hI : INV 0 138 k h) (hk : k < 512) (nx : ∀ h2, INV 0 138 (k + 1) h2 → lJ p l e s m below meth c b D dA i h2 1673 []) : lJ p l e s m below meth c b D dA i h 1647 [] := by
  obtain ⟨d, d', r, H1, H2, hd, hd', c1, c2, hI2, ⟨hr2, fs2, hf2⟩, ⟨v, rfl⟩⟩ := m_mark (l := l) hI
  obtain ⟨hr1, fs1, hf1⟩ := iv_rc hI
  obtain ⟨hR1, hR2⟩ := iv_rm hI2 hk
  have g1 := c2.1
  have g2 := c2.2.1
  refine l_1 C dL_law_1647 ?_
  refine l_call (st := []) (As := []) C cv_L_220 hd dL_law_1648 hf1 hr1 rfl (by decide) c1 (by omega) (by omega) rfl ?_
  refine l_2 C dL_law_1651 ?_
  refine l_call (st := [.int v]) (As := []) C cv_L_223 hd' dL_law_1652 hf2 hr2 rfl (Nat.le_of_ble_eq_true rfl) c2 hR1 hR2 rfl ?_
  exact l_eqI C dL_law_1655 (by decide) (nx H2 hI2)
theorem cs49 (C : lC p s m meth c b L xs D dA) (hL : L ≤ 3072) (hi : i = nI iN) (hin : iN + 6 ≤ L) (hI : INV 0 138 k h) (hk : k < 512) (nx : ∀ h2, INV 0 138 (k + 1) h2 → lJ p l e s m below meth c b D dA i h2 1673 []) : lJ p l e s m below meth c b D dA i h 1660 [] := by
  obtain ⟨d, d', r, H1, H2, hd, hd', c1, c2, hI2, ⟨hr2, fs2, hf2⟩, ⟨v, rfl⟩⟩ := m_back (l := l) hI
  obtain ⟨hr1, fs1, hf1⟩ := iv_rc hI
  obtain ⟨hR1, hR2⟩ := iv_rm hI2 hk
  have g1 := c2.1
  have g2 := c2.2.1
  refine l_1 C dL_law_1660 ?_
  refine l_call (st := []) (As := []) C cv_L_224 hd dL_law_1661 hf1 hr1 rfl (by decide) c1 (by omega) (by omega) rfl ?_
  refine l_2 C dL_law_1664 ?_
  refine l_call (st := [.int v]) (As := []) C cv_L_227 hd' dL_law_1665 hf2 hr2 rfl (Nat.le_of_ble_eq_true rfl) c2 hR1 hR2 rfl ?_
  exact l_eqI C dL_law_1668 (by decide) (nx H2 hI2)
end L
