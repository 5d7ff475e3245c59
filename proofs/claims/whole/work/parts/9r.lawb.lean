/-! ===== the law: one branch for each op (by program: wip/whole/law2.py) ===== -/
theorem cmp_rr (x : Int64) : lg_cmp x x = 0 := by simp [lg_cmp]
def lsL (i : Nat) : List (Option AV) := [some (vr 90 0), some (vr 10 0), some (vr 11 0), some (vi (nI i))]
section BRL
variable {L : Nat} {xs : Nat → Int32} {k n i : Nat} {σ : SS}
theorem br_0 (hL : L ≤ 3072) (hi : i + 6 ≤ L) (hk : k ≤ 600000) (hn : n ≤ 7302250) (h : Rel σ) (K : ∀ τ, Rel τ → Wl L xs k n 1706 (lsL i) [] (hp τ)) : Wl L xs k n 268 (lsL i) [] (hp σ) := by
  obtain ⟨r, σ2, e1, e2, hR⟩ := lf_status  h
  refine Wl.aload_n dl_268 rfl ?_
  refine Wl.call (r := vi r) (σ' := σ) (as := []) (rest := []) (ok_X11_status e1) dl_269 wl_13 (mO10 (by decide)) (by decide) rfl rfl (Nat.le_of_ble_eq_true rfl) hk hn ?_
  refine Wl.aload_n dl_272 rfl ?_
  refine Wl.call (r := vi r) (σ' := σ2) (as := []) (rest := [vi r]) (ok_X12_status e2) dl_273 wl_17 (mO11 (by decide)) (by decide) rfl rfl (Nat.le_of_ble_eq_true rfl) hk hn ?_
  exact Wl.icmp_eq (tgt := 1706) dl_276 rfl (fun _ => K _ hR) (fun z => absurd rfl z)
theorem br_1 (hL : L ≤ 3072) (hi : i + 6 ≤ L) (hk : k ≤ 600000) (hn : n ≤ 7302250) (h : Rel σ) (K : ∀ τ, Rel τ → Wl L xs k n 1706 (lsL i) [] (hp τ)) : Wl L xs k n 281 (lsL i) [] (hp σ) := by
  obtain ⟨r, σ2, e1, e2, hR⟩ := lf_top  h
  refine Wl.aload_n dl_281 rfl ?_
  refine Wl.call (r := vl r) (σ' := σ) (as := []) (rest := []) (ok_X11_top e1) dl_282 wl_18 (mO10 (by decide)) (by decide) rfl rfl (Nat.le_of_ble_eq_true rfl) hk hn ?_
  refine Wl.aload_n dl_285 rfl ?_
  refine Wl.call (r := vl r) (σ' := σ2) (as := []) (rest := [vl r]) (ok_X12_top e2) dl_286 wl_22 (mO11 (by decide)) (by decide) rfl rfl (Nat.le_of_ble_eq_true rfl) hk hn ?_
  refine Wl.lcmp dl_289 ?_
  exact Wl.if_eq (tgt := 1706) dl_290 rfl (fun _ => K _ hR) (fun z => absurd (cmp_rr r) z)
theorem br_2 (hL : L ≤ 3072) (hi : i + 6 ≤ L) (hk : k ≤ 600000) (hn : n ≤ 7302250) (h : Rel σ) (K : ∀ τ, Rel τ → Wl L xs k n 1706 (lsL i) [] (hp τ)) : Wl L xs k n 295 (lsL i) [] (hp σ) := by
  obtain ⟨r, σ2, e1, e2, hR⟩ := lf_bottom  h
  refine Wl.aload_n dl_295 rfl ?_
  refine Wl.call (r := vl r) (σ' := σ) (as := []) (rest := []) (ok_X11_bottom e1) dl_296 wl_23 (mO10 (by decide)) (by decide) rfl rfl (Nat.le_of_ble_eq_true rfl) hk hn ?_
  refine Wl.aload_n dl_299 rfl ?_
  refine Wl.call (r := vl r) (σ' := σ2) (as := []) (rest := [vl r]) (ok_X12_bottom e2) dl_300 wl_26 (mO11 (by decide)) (by decide) rfl rfl (Nat.le_of_ble_eq_true rfl) hk hn ?_
  refine Wl.lcmp dl_303 ?_
  exact Wl.if_eq (tgt := 1706) dl_304 rfl (fun _ => K _ hR) (fun z => absurd (cmp_rr r) z)
theorem br_3 (hL : L ≤ 3072) (hi : i + 6 ≤ L) (hk : k ≤ 600000) (hn : n ≤ 7302250) (h : Rel σ) (K : ∀ τ, Rel τ → Wl L xs k n 1706 (lsL i) [] (hp τ)) : Wl L xs k n 309 (lsL i) [] (hp σ) := by
  obtain ⟨r, σ1, σ2, e1, e2, hR⟩ := lf_tray (xs (i + 1)) (xs (i + 2)) (xs (i + 3)) h
  refine Wl.aload_n dl_309 rfl ?_
  refine Wl.arg (j := 1) hL hi (by decide) ic_1 dl_310 dl_311 dl_312 dl_313 dl_314 ?_
  refine Wl.arg (j := 2) hL hi (by decide) ic_2 dl_315 dl_316 dl_317 dl_318 dl_319 ?_
  refine Wl.arg (j := 3) hL hi (by decide) ic_3 dl_320 dl_321 dl_322 dl_323 dl_324 ?_
  refine Wl.call (r := vi r) (σ' := σ1) (as := [vi (xs (i + 1)), vi (xs (i + 2)), vi (xs (i + 3))]) (rest := []) (ok_X11_tray e1) dl_325 wl_27 (mO10 (by decide)) (by decide) rfl rfl (Nat.le_of_ble_eq_true rfl) hk hn ?_
  refine Wl.aload_n dl_328 rfl ?_
  refine Wl.arg (j := 1) hL hi (by decide) ic_1 dl_329 dl_330 dl_331 dl_332 dl_333 ?_
  refine Wl.arg (j := 2) hL hi (by decide) ic_2 dl_334 dl_335 dl_336 dl_337 dl_338 ?_
  refine Wl.arg (j := 3) hL hi (by decide) ic_3 dl_339 dl_340 dl_341 dl_342 dl_343 ?_
  refine Wl.call (r := vi r) (σ' := σ2) (as := [vi (xs (i + 1)), vi (xs (i + 2)), vi (xs (i + 3))]) (rest := [vi r]) (ok_X12_tray e2) dl_344 wl_31 (mO11 (by decide)) (by decide) rfl rfl (Nat.le_of_ble_eq_true rfl) hk hn ?_
  exact Wl.icmp_eq (tgt := 1706) dl_347 rfl (fun _ => K _ hR) (fun z => absurd rfl z)
theorem br_4 (hL : L ≤ 3072) (hi : i + 6 ≤ L) (hk : k ≤ 600000) (hn : n ≤ 7302250) (h : Rel σ) (K : ∀ τ, Rel τ → Wl L xs k n 1706 (lsL i) [] (hp τ)) : Wl L xs k n 352 (lsL i) [] (hp σ) := by
  obtain ⟨r, σ1, σ2, e1, e2, hR⟩ := lf_write (xs (i + 1)) (xs (i + 2)) ((xs (i + 3)).toInt64 <<< ((32 : Int32).toInt64 &&& 63) ||| ((xs (i + 4)).toInt64 &&& 4294967295)) h
  refine Wl.aload_n dl_352 rfl ?_
  refine Wl.arg (j := 1) hL hi (by decide) ic_1 dl_353 dl_354 dl_355 dl_356 dl_357 ?_
  refine Wl.arg (j := 2) hL hi (by decide) ic_2 dl_358 dl_359 dl_360 dl_361 dl_362 ?_
  refine Wl.arg (j := 3) hL hi (by decide) ic_3 dl_363 dl_364 dl_365 dl_366 dl_367 ?_
  refine Wl.i2l dl_368 ?_
  refine Wl.bipush dl_369 bp_32 ?_
  refine Wl.lshl dl_371 ?_
  refine Wl.arg (j := 4) hL hi (by decide) ic_4 dl_372 dl_373 dl_374 dl_375 dl_376 ?_
  refine Wl.i2l dl_377 ?_
  refine Wl.ldc2 dl_378 kl_32 ?_
  refine Wl.land dl_381 ?_
  refine Wl.lor dl_382 ?_
  refine Wl.call (r := vi r) (σ' := σ1) (as := [vi (xs (i + 1)), vi (xs (i + 2)), vl ((xs (i + 3)).toInt64 <<< ((32 : Int32).toInt64 &&& 63) ||| ((xs (i + 4)).toInt64 &&& 4294967295))]) (rest := []) (ok_X11_write e1) dl_383 wl_34 (mO10 (by decide)) (by decide) rfl rfl (Nat.le_of_ble_eq_true rfl) hk hn ?_
  refine Wl.aload_n dl_386 rfl ?_
  refine Wl.arg (j := 1) hL hi (by decide) ic_1 dl_387 dl_388 dl_389 dl_390 dl_391 ?_
  refine Wl.arg (j := 2) hL hi (by decide) ic_2 dl_392 dl_393 dl_394 dl_395 dl_396 ?_
  refine Wl.arg (j := 3) hL hi (by decide) ic_3 dl_397 dl_398 dl_399 dl_400 dl_401 ?_
  refine Wl.i2l dl_402 ?_
  refine Wl.bipush dl_403 bp_32 ?_
  refine Wl.lshl dl_405 ?_
  refine Wl.arg (j := 4) hL hi (by decide) ic_4 dl_406 dl_407 dl_408 dl_409 dl_410 ?_
  refine Wl.i2l dl_411 ?_
  refine Wl.ldc2 dl_412 kl_32 ?_
  refine Wl.land dl_415 ?_
  refine Wl.lor dl_416 ?_
  refine Wl.call (r := vi r) (σ' := σ2) (as := [vi (xs (i + 1)), vi (xs (i + 2)), vl ((xs (i + 3)).toInt64 <<< ((32 : Int32).toInt64 &&& 63) ||| ((xs (i + 4)).toInt64 &&& 4294967295))]) (rest := [vi r]) (ok_X12_write e2) dl_417 wl_38 (mO11 (by decide)) (by decide) rfl rfl (Nat.le_of_ble_eq_true rfl) hk hn ?_
  exact Wl.icmp_eq (tgt := 1706) dl_420 rfl (fun _ => K _ hR) (fun z => absurd rfl z)
theorem br_5 (hL : L ≤ 3072) (hi : i + 6 ≤ L) (hk : k ≤ 600000) (hn : n ≤ 7302250) (h : Rel σ) (K : ∀ τ, Rel τ → Wl L xs k n 1706 (lsL i) [] (hp τ)) : Wl L xs k n 425 (lsL i) [] (hp σ) := by
  obtain ⟨r, σ1, σ2, e1, e2, hR⟩ := lf_read (xs (i + 1)) (xs (i + 2)) h
  refine Wl.aload_n dl_425 rfl ?_
  refine Wl.arg (j := 1) hL hi (by decide) ic_1 dl_426 dl_427 dl_428 dl_429 dl_430 ?_
  refine Wl.arg (j := 2) hL hi (by decide) ic_2 dl_431 dl_432 dl_433 dl_434 dl_435 ?_
  refine Wl.call (r := vl r) (σ' := σ1) (as := [vi (xs (i + 1)), vi (xs (i + 2))]) (rest := []) (ok_X11_read e1) dl_436 wl_39 (mO10 (by decide)) (by decide) rfl rfl (Nat.le_of_ble_eq_true rfl) hk hn ?_
  refine Wl.aload_n dl_439 rfl ?_
  refine Wl.arg (j := 1) hL hi (by decide) ic_1 dl_440 dl_441 dl_442 dl_443 dl_444 ?_
  refine Wl.arg (j := 2) hL hi (by decide) ic_2 dl_445 dl_446 dl_447 dl_448 dl_449 ?_
  refine Wl.call (r := vl r) (σ' := σ2) (as := [vi (xs (i + 1)), vi (xs (i + 2))]) (rest := [vl r]) (ok_X12_read e2) dl_450 wl_43 (mO11 (by decide)) (by decide) rfl rfl (Nat.le_of_ble_eq_true rfl) hk hn ?_
  refine Wl.lcmp dl_453 ?_
  exact Wl.if_eq (tgt := 1706) dl_454 rfl (fun _ => K _ hR) (fun z => absurd (cmp_rr r) z)
theorem br_6 (hL : L ≤ 3072) (hi : i + 6 ≤ L) (hk : k ≤ 600000) (hn : n ≤ 7302250) (h : Rel σ) (K : ∀ τ, Rel τ → Wl L xs k n 1706 (lsL i) [] (hp τ)) : Wl L xs k n 459 (lsL i) [] (hp σ) := by
  obtain ⟨r, σ1, σ2, e1, e2, hR⟩ := lf_pour (xs (i + 1)) (xs (i + 2)) (xs (i + 3)) (xs (i + 4)) (xs (i + 5)) h
  refine Wl.aload_n dl_459 rfl ?_
  refine Wl.arg (j := 1) hL hi (by decide) ic_1 dl_460 dl_461 dl_462 dl_463 dl_464 ?_
  refine Wl.arg (j := 2) hL hi (by decide) ic_2 dl_465 dl_466 dl_467 dl_468 dl_469 ?_
  refine Wl.arg (j := 3) hL hi (by decide) ic_3 dl_470 dl_471 dl_472 dl_473 dl_474 ?_
  refine Wl.arg (j := 4) hL hi (by decide) ic_4 dl_475 dl_476 dl_477 dl_478 dl_479 ?_
  refine Wl.arg (j := 5) hL hi (by decide) ic_5 dl_480 dl_481 dl_482 dl_483 dl_484 ?_
  refine Wl.call (r := vi r) (σ' := σ1) (as := [vi (xs (i + 1)), vi (xs (i + 2)), vi (xs (i + 3)), vi (xs (i + 4)), vi (xs (i + 5))]) (rest := []) (ok_X11_pour e1) dl_485 wl_44 (mO10 (by decide)) (by decide) rfl rfl (Nat.le_of_ble_eq_true rfl) hk hn ?_
  refine Wl.aload_n dl_488 rfl ?_
  refine Wl.arg (j := 1) hL hi (by decide) ic_1 dl_489 dl_490 dl_491 dl_492 dl_493 ?_
  refine Wl.arg (j := 2) hL hi (by decide) ic_2 dl_494 dl_495 dl_496 dl_497 dl_498 ?_
  refine Wl.arg (j := 3) hL hi (by decide) ic_3 dl_499 dl_500 dl_501 dl_502 dl_503 ?_
  refine Wl.arg (j := 4) hL hi (by decide) ic_4 dl_504 dl_505 dl_506 dl_507 dl_508 ?_
  refine Wl.arg (j := 5) hL hi (by decide) ic_5 dl_509 dl_510 dl_511 dl_512 dl_513 ?_
  refine Wl.call (r := vi r) (σ' := σ2) (as := [vi (xs (i + 1)), vi (xs (i + 2)), vi (xs (i + 3)), vi (xs (i + 4)), vi (xs (i + 5))]) (rest := [vi r]) (ok_X12_pour e2) dl_514 wl_48 (mO11 (by decide)) (by decide) rfl rfl (Nat.le_of_ble_eq_true rfl) hk hn ?_
  exact Wl.icmp_eq (tgt := 1706) dl_517 rfl (fun _ => K _ hR) (fun z => absurd rfl z)
theorem br_7 (hL : L ≤ 3072) (hi : i + 6 ≤ L) (hk : k ≤ 600000) (hn : n ≤ 7302250) (h : Rel σ) (K : ∀ τ, Rel τ → Wl L xs k n 1706 (lsL i) [] (hp τ)) : Wl L xs k n 522 (lsL i) [] (hp σ) := by
  obtain ⟨r, σ1, σ2, e1, e2, hR⟩ := lf_feed (xs (i + 1)) (xs (i + 2)) (xs (i + 3)) (xs (i + 4)) (xs (i + 5)) h
  refine Wl.aload_n dl_522 rfl ?_
  refine Wl.arg (j := 1) hL hi (by decide) ic_1 dl_523 dl_524 dl_525 dl_526 dl_527 ?_
  refine Wl.arg (j := 2) hL hi (by decide) ic_2 dl_528 dl_529 dl_530 dl_531 dl_532 ?_
  refine Wl.arg (j := 3) hL hi (by decide) ic_3 dl_533 dl_534 dl_535 dl_536 dl_537 ?_
  refine Wl.arg (j := 4) hL hi (by decide) ic_4 dl_538 dl_539 dl_540 dl_541 dl_542 ?_
  refine Wl.arg (j := 5) hL hi (by decide) ic_5 dl_543 dl_544 dl_545 dl_546 dl_547 ?_
  refine Wl.call (r := vi r) (σ' := σ1) (as := [vi (xs (i + 1)), vi (xs (i + 2)), vi (xs (i + 3)), vi (xs (i + 4)), vi (xs (i + 5))]) (rest := []) (ok_X11_feed e1) dl_548 wl_49 (mO10 (by decide)) (by decide) rfl rfl (Nat.le_of_ble_eq_true rfl) hk hn ?_
  refine Wl.aload_n dl_551 rfl ?_
  refine Wl.arg (j := 1) hL hi (by decide) ic_1 dl_552 dl_553 dl_554 dl_555 dl_556 ?_
  refine Wl.arg (j := 2) hL hi (by decide) ic_2 dl_557 dl_558 dl_559 dl_560 dl_561 ?_
  refine Wl.arg (j := 3) hL hi (by decide) ic_3 dl_562 dl_563 dl_564 dl_565 dl_566 ?_
  refine Wl.arg (j := 4) hL hi (by decide) ic_4 dl_567 dl_568 dl_569 dl_570 dl_571 ?_
  refine Wl.arg (j := 5) hL hi (by decide) ic_5 dl_572 dl_573 dl_574 dl_575 dl_576 ?_
  refine Wl.call (r := vi r) (σ' := σ2) (as := [vi (xs (i + 1)), vi (xs (i + 2)), vi (xs (i + 3)), vi (xs (i + 4)), vi (xs (i + 5))]) (rest := [vi r]) (ok_X12_feed e2) dl_577 wl_53 (mO11 (by decide)) (by decide) rfl rfl (Nat.le_of_ble_eq_true rfl) hk hn ?_
  exact Wl.icmp_eq (tgt := 1706) dl_580 rfl (fun _ => K _ hR) (fun z => absurd rfl z)
theorem br_8 (hL : L ≤ 3072) (hi : i + 6 ≤ L) (hk : k ≤ 600000) (hn : n ≤ 7302250) (h : Rel σ) (K : ∀ τ, Rel τ → Wl L xs k n 1706 (lsL i) [] (hp τ)) : Wl L xs k n 585 (lsL i) [] (hp σ) := by
  obtain ⟨r, σ1, σ2, e1, e2, hR⟩ := lf_drawer (xs (i + 1)) h
  refine Wl.aload_n dl_585 rfl ?_
  refine Wl.arg (j := 1) hL hi (by decide) ic_1 dl_586 dl_587 dl_588 dl_589 dl_590 ?_
  refine Wl.call (r := vi r) (σ' := σ1) (as := [vi (xs (i + 1))]) (rest := []) (ok_X11_drawer e1) dl_591 wl_54 (mO10 (by decide)) (by decide) rfl rfl (Nat.le_of_ble_eq_true rfl) hk hn ?_
  refine Wl.aload_n dl_594 rfl ?_
  refine Wl.arg (j := 1) hL hi (by decide) ic_1 dl_595 dl_596 dl_597 dl_598 dl_599 ?_
  refine Wl.call (r := vi r) (σ' := σ2) (as := [vi (xs (i + 1))]) (rest := [vi r]) (ok_X12_drawer e2) dl_600 wl_58 (mO11 (by decide)) (by decide) rfl rfl (Nat.le_of_ble_eq_true rfl) hk hn ?_
  exact Wl.icmp_eq (tgt := 1706) dl_603 rfl (fun _ => K _ hR) (fun z => absurd rfl z)
theorem br_9 (hL : L ≤ 3072) (hi : i + 6 ≤ L) (hk : k ≤ 600000) (hn : n ≤ 7302250) (h : Rel σ) (K : ∀ τ, Rel τ → Wl L xs k n 1706 (lsL i) [] (hp τ)) : Wl L xs k n 608 (lsL i) [] (hp σ) := by
  obtain ⟨r, σ1, σ2, e1, e2, hR⟩ := lf_years (xs (i + 1)) h
  refine Wl.aload_n dl_608 rfl ?_
  refine Wl.arg (j := 1) hL hi (by decide) ic_1 dl_609 dl_610 dl_611 dl_612 dl_613 ?_
  refine Wl.call (r := vi r) (σ' := σ1) (as := [vi (xs (i + 1))]) (rest := []) (ok_X11_years e1) dl_614 wl_59 (mO10 (by decide)) (by decide) rfl rfl (Nat.le_of_ble_eq_true rfl) hk hn ?_
  refine Wl.aload_n dl_617 rfl ?_
  refine Wl.arg (j := 1) hL hi (by decide) ic_1 dl_618 dl_619 dl_620 dl_621 dl_622 ?_
  refine Wl.call (r := vi r) (σ' := σ2) (as := [vi (xs (i + 1))]) (rest := [vi r]) (ok_X12_years e2) dl_623 wl_62 (mO11 (by decide)) (by decide) rfl rfl (Nat.le_of_ble_eq_true rfl) hk hn ?_
  exact Wl.icmp_eq (tgt := 1706) dl_626 rfl (fun _ => K _ hR) (fun z => absurd rfl z)
theorem br_10 (hL : L ≤ 3072) (hi : i + 6 ≤ L) (hk : k ≤ 600000) (hn : n ≤ 7302250) (h : Rel σ) (K : ∀ τ, Rel τ → Wl L xs k n 1706 (lsL i) [] (hp τ)) : Wl L xs k n 631 (lsL i) [] (hp σ) := by
  obtain ⟨r, σ2, e1, e2, hR⟩ := lf_fault (xs (i + 1)) h
  refine Wl.aload_n dl_631 rfl ?_
  refine Wl.arg (j := 1) hL hi (by decide) ic_1 dl_632 dl_633 dl_634 dl_635 dl_636 ?_
  refine Wl.call (r := vi r) (σ' := σ) (as := [vi (xs (i + 1))]) (rest := []) (ok_X11_fault e1) dl_637 wl_63 (mO10 (by decide)) (by decide) rfl rfl (Nat.le_of_ble_eq_true rfl) hk hn ?_
  refine Wl.aload_n dl_640 rfl ?_
  refine Wl.arg (j := 1) hL hi (by decide) ic_1 dl_641 dl_642 dl_643 dl_644 dl_645 ?_
  refine Wl.call (r := vi r) (σ' := σ2) (as := [vi (xs (i + 1))]) (rest := [vi r]) (ok_X12_fault e2) dl_646 wl_66 (mO11 (by decide)) (by decide) rfl rfl (Nat.le_of_ble_eq_true rfl) hk hn ?_
  exact Wl.icmp_eq (tgt := 1706) dl_649 rfl (fun _ => K _ hR) (fun z => absurd rfl z)
theorem br_11 (hL : L ≤ 3072) (hi : i + 6 ≤ L) (hk : k ≤ 600000) (hn : n ≤ 7302250) (h : Rel σ) (K : ∀ τ, Rel τ → Wl L xs k n 1706 (lsL i) [] (hp τ)) : Wl L xs k n 654 (lsL i) [] (hp σ) := by
  obtain ⟨r, σ1, σ2, e1, e2, hR⟩ := lf_many (xs (i + 1)) h
  refine Wl.aload_n dl_654 rfl ?_
  refine Wl.arg (j := 1) hL hi (by decide) ic_1 dl_655 dl_656 dl_657 dl_658 dl_659 ?_
  refine Wl.call (r := vi r) (σ' := σ1) (as := [vi (xs (i + 1))]) (rest := []) (ok_X11_many e1) dl_660 wl_67 (mO10 (by decide)) (by decide) rfl rfl (Nat.le_of_ble_eq_true rfl) hk hn ?_
  refine Wl.aload_n dl_663 rfl ?_
  refine Wl.arg (j := 1) hL hi (by decide) ic_1 dl_664 dl_665 dl_666 dl_667 dl_668 ?_
  refine Wl.call (r := vi r) (σ' := σ2) (as := [vi (xs (i + 1))]) (rest := [vi r]) (ok_X12_many e2) dl_669 wl_70 (mO11 (by decide)) (by decide) rfl rfl (Nat.le_of_ble_eq_true rfl) hk hn ?_
  exact Wl.icmp_eq (tgt := 1706) dl_672 rfl (fun _ => K _ hR) (fun z => absurd rfl z)
theorem br_12 (hL : L ≤ 3072) (hi : i + 6 ≤ L) (hk : k ≤ 600000) (hn : n ≤ 7302250) (h : Rel σ) (K : ∀ τ, Rel τ → Wl L xs k n 1706 (lsL i) [] (hp τ)) : Wl L xs k n 677 (lsL i) [] (hp σ) := by
  obtain ⟨r, σ1, σ2, e1, e2, hR⟩ := lf_lead (xs (i + 1)) (xs (i + 2)) h
  refine Wl.aload_n dl_677 rfl ?_
  refine Wl.arg (j := 1) hL hi (by decide) ic_1 dl_678 dl_679 dl_680 dl_681 dl_682 ?_
  refine Wl.arg (j := 2) hL hi (by decide) ic_2 dl_683 dl_684 dl_685 dl_686 dl_687 ?_
  refine Wl.call (r := vi r) (σ' := σ1) (as := [vi (xs (i + 1)), vi (xs (i + 2))]) (rest := []) (ok_X11_lead e1) dl_688 wl_71 (mO10 (by decide)) (by decide) rfl rfl (Nat.le_of_ble_eq_true rfl) hk hn ?_
  refine Wl.aload_n dl_691 rfl ?_
  refine Wl.arg (j := 1) hL hi (by decide) ic_1 dl_692 dl_693 dl_694 dl_695 dl_696 ?_
  refine Wl.arg (j := 2) hL hi (by decide) ic_2 dl_697 dl_698 dl_699 dl_700 dl_701 ?_
  refine Wl.call (r := vi r) (σ' := σ2) (as := [vi (xs (i + 1)), vi (xs (i + 2))]) (rest := [vi r]) (ok_X12_lead e2) dl_702 wl_75 (mO11 (by decide)) (by decide) rfl rfl (Nat.le_of_ble_eq_true rfl) hk hn ?_
  exact Wl.icmp_eq (tgt := 1706) dl_705 rfl (fun _ => K _ hR) (fun z => absurd rfl z)
theorem br_13 (hL : L ≤ 3072) (hi : i + 6 ≤ L) (hk : k ≤ 600000) (hn : n ≤ 7302250) (h : Rel σ) (K : ∀ τ, Rel τ → Wl L xs k n 1706 (lsL i) [] (hp τ)) : Wl L xs k n 710 (lsL i) [] (hp σ) := by
  obtain ⟨r, σ1, σ2, e1, e2, hR⟩ := lf_crossing (xs (i + 1)) (xs (i + 2)) h
  refine Wl.aload_n dl_710 rfl ?_
  refine Wl.arg (j := 1) hL hi (by decide) ic_1 dl_711 dl_712 dl_713 dl_714 dl_715 ?_
  refine Wl.arg (j := 2) hL hi (by decide) ic_2 dl_716 dl_717 dl_718 dl_719 dl_720 ?_
  refine Wl.call (r := vi r) (σ' := σ1) (as := [vi (xs (i + 1)), vi (xs (i + 2))]) (rest := []) (ok_X11_crossing e1) dl_721 wl_76 (mO10 (by decide)) (by decide) rfl rfl (Nat.le_of_ble_eq_true rfl) hk hn ?_
  refine Wl.aload_n dl_724 rfl ?_
  refine Wl.arg (j := 1) hL hi (by decide) ic_1 dl_725 dl_726 dl_727 dl_728 dl_729 ?_
  refine Wl.arg (j := 2) hL hi (by decide) ic_2 dl_730 dl_731 dl_732 dl_733 dl_734 ?_
  refine Wl.call (r := vi r) (σ' := σ2) (as := [vi (xs (i + 1)), vi (xs (i + 2))]) (rest := [vi r]) (ok_X12_crossing e2) dl_735 wl_79 (mO11 (by decide)) (by decide) rfl rfl (Nat.le_of_ble_eq_true rfl) hk hn ?_
  exact Wl.icmp_eq (tgt := 1706) dl_738 rfl (fun _ => K _ hR) (fun z => absurd rfl z)
theorem br_14 (hL : L ≤ 3072) (hi : i + 6 ≤ L) (hk : k ≤ 600000) (hn : n ≤ 7302250) (h : Rel σ) (K : ∀ τ, Rel τ → Wl L xs k n 1706 (lsL i) [] (hp τ)) : Wl L xs k n 743 (lsL i) [] (hp σ) := by
  obtain ⟨r, σ1, σ2, e1, e2, hR⟩ := lf_along (xs (i + 1)) (xs (i + 2)) h
  refine Wl.aload_n dl_743 rfl ?_
  refine Wl.arg (j := 1) hL hi (by decide) ic_1 dl_744 dl_745 dl_746 dl_747 dl_748 ?_
  refine Wl.arg (j := 2) hL hi (by decide) ic_2 dl_749 dl_750 dl_751 dl_752 dl_753 ?_
  refine Wl.call (r := vi r) (σ' := σ1) (as := [vi (xs (i + 1)), vi (xs (i + 2))]) (rest := []) (ok_X11_along e1) dl_754 wl_80 (mO10 (by decide)) (by decide) rfl rfl (Nat.le_of_ble_eq_true rfl) hk hn ?_
  refine Wl.aload_n dl_757 rfl ?_
  refine Wl.arg (j := 1) hL hi (by decide) ic_1 dl_758 dl_759 dl_760 dl_761 dl_762 ?_
  refine Wl.arg (j := 2) hL hi (by decide) ic_2 dl_763 dl_764 dl_765 dl_766 dl_767 ?_
  refine Wl.call (r := vi r) (σ' := σ2) (as := [vi (xs (i + 1)), vi (xs (i + 2))]) (rest := [vi r]) (ok_X12_along e2) dl_768 wl_83 (mO11 (by decide)) (by decide) rfl rfl (Nat.le_of_ble_eq_true rfl) hk hn ?_
  exact Wl.icmp_eq (tgt := 1706) dl_771 rfl (fun _ => K _ hR) (fun z => absurd rfl z)
theorem br_15 (hL : L ≤ 3072) (hi : i + 6 ≤ L) (hk : k ≤ 600000) (hn : n ≤ 7302250) (h : Rel σ) (K : ∀ τ, Rel τ → Wl L xs k n 1706 (lsL i) [] (hp τ)) : Wl L xs k n 776 (lsL i) [] (hp σ) := by
  obtain ⟨r, σ1, σ2, e1, e2, hR⟩ := lf_look (xs (i + 1)) h
  refine Wl.aload_n dl_776 rfl ?_
  refine Wl.arg (j := 1) hL hi (by decide) ic_1 dl_777 dl_778 dl_779 dl_780 dl_781 ?_
  refine Wl.call (r := vi r) (σ' := σ1) (as := [vi (xs (i + 1))]) (rest := []) (ok_X11_look e1) dl_782 wl_84 (mO10 (by decide)) (by decide) rfl rfl (Nat.le_of_ble_eq_true rfl) hk hn ?_
  refine Wl.aload_n dl_785 rfl ?_
  refine Wl.arg (j := 1) hL hi (by decide) ic_1 dl_786 dl_787 dl_788 dl_789 dl_790 ?_
  refine Wl.call (r := vi r) (σ' := σ2) (as := [vi (xs (i + 1))]) (rest := [vi r]) (ok_X12_look e2) dl_791 wl_87 (mO11 (by decide)) (by decide) rfl rfl (Nat.le_of_ble_eq_true rfl) hk hn ?_
  exact Wl.icmp_eq (tgt := 1706) dl_794 rfl (fun _ => K _ hR) (fun z => absurd rfl z)
theorem br_16 (hL : L ≤ 3072) (hi : i + 6 ≤ L) (hk : k ≤ 600000) (hn : n ≤ 7302250) (h : Rel σ) (K : ∀ τ, Rel τ → Wl L xs k n 1706 (lsL i) [] (hp τ)) : Wl L xs k n 799 (lsL i) [] (hp σ) := by
  obtain ⟨r, σ1, σ2, e1, e2, hR⟩ := lf_between (xs (i + 1)) (xs (i + 2)) h
  refine Wl.aload_n dl_799 rfl ?_
  refine Wl.arg (j := 1) hL hi (by decide) ic_1 dl_800 dl_801 dl_802 dl_803 dl_804 ?_
  refine Wl.arg (j := 2) hL hi (by decide) ic_2 dl_805 dl_806 dl_807 dl_808 dl_809 ?_
  refine Wl.call (r := vi r) (σ' := σ1) (as := [vi (xs (i + 1)), vi (xs (i + 2))]) (rest := []) (ok_X11_between e1) dl_810 wl_88 (mO10 (by decide)) (by decide) rfl rfl (Nat.le_of_ble_eq_true rfl) hk hn ?_
  refine Wl.aload_n dl_813 rfl ?_
  refine Wl.arg (j := 1) hL hi (by decide) ic_1 dl_814 dl_815 dl_816 dl_817 dl_818 ?_
  refine Wl.arg (j := 2) hL hi (by decide) ic_2 dl_819 dl_820 dl_821 dl_822 dl_823 ?_
  refine Wl.call (r := vi r) (σ' := σ2) (as := [vi (xs (i + 1)), vi (xs (i + 2))]) (rest := [vi r]) (ok_X12_between e2) dl_824 wl_91 (mO11 (by decide)) (by decide) rfl rfl (Nat.le_of_ble_eq_true rfl) hk hn ?_
  exact Wl.icmp_eq (tgt := 1706) dl_827 rfl (fun _ => K _ hR) (fun z => absurd rfl z)
theorem br_17 (hL : L ≤ 3072) (hi : i + 6 ≤ L) (hk : k ≤ 600000) (hn : n ≤ 7302250) (h : Rel σ) (K : ∀ τ, Rel τ → Wl L xs k n 1706 (lsL i) [] (hp τ)) : Wl L xs k n 832 (lsL i) [] (hp σ) := by
  obtain ⟨r, σ1, σ2, e1, e2, hR⟩ := lf_copyStates (xs (i + 1)) h
  refine Wl.aload_n dl_832 rfl ?_
  refine Wl.arg (j := 1) hL hi (by decide) ic_1 dl_833 dl_834 dl_835 dl_836 dl_837 ?_
  refine Wl.call (r := vi r) (σ' := σ1) (as := [vi (xs (i + 1))]) (rest := []) (ok_X11_copyStates e1) dl_838 wl_92 (mO10 (by decide)) (by decide) rfl rfl (Nat.le_of_ble_eq_true rfl) hk hn ?_
  refine Wl.aload_n dl_841 rfl ?_
  refine Wl.arg (j := 1) hL hi (by decide) ic_1 dl_842 dl_843 dl_844 dl_845 dl_846 ?_
  refine Wl.call (r := vi r) (σ' := σ2) (as := [vi (xs (i + 1))]) (rest := [vi r]) (ok_X12_copyStates e2) dl_847 wl_95 (mO11 (by decide)) (by decide) rfl rfl (Nat.le_of_ble_eq_true rfl) hk hn ?_
  exact Wl.icmp_eq (tgt := 1706) dl_850 rfl (fun _ => K _ hR) (fun z => absurd rfl z)
theorem br_18 (hL : L ≤ 3072) (hi : i + 6 ≤ L) (hk : k ≤ 600000) (hn : n ≤ 7302250) (h : Rel σ) (K : ∀ τ, Rel τ → Wl L xs k n 1706 (lsL i) [] (hp τ)) : Wl L xs k n 855 (lsL i) [] (hp σ) := by
  obtain ⟨r, σ1, σ2, e1, e2, hR⟩ := lf_follow (xs (i + 1)) (xs (i + 2)) h
  refine Wl.aload_n dl_855 rfl ?_
  refine Wl.arg (j := 1) hL hi (by decide) ic_1 dl_856 dl_857 dl_858 dl_859 dl_860 ?_
  refine Wl.arg (j := 2) hL hi (by decide) ic_2 dl_861 dl_862 dl_863 dl_864 dl_865 ?_
  refine Wl.call (r := vi r) (σ' := σ1) (as := [vi (xs (i + 1)), vi (xs (i + 2))]) (rest := []) (ok_X11_follow e1) dl_866 wl_96 (mO10 (by decide)) (by decide) rfl rfl (Nat.le_of_ble_eq_true rfl) hk hn ?_
  refine Wl.aload_n dl_869 rfl ?_
  refine Wl.arg (j := 1) hL hi (by decide) ic_1 dl_870 dl_871 dl_872 dl_873 dl_874 ?_
  refine Wl.arg (j := 2) hL hi (by decide) ic_2 dl_875 dl_876 dl_877 dl_878 dl_879 ?_
  refine Wl.call (r := vi r) (σ' := σ2) (as := [vi (xs (i + 1)), vi (xs (i + 2))]) (rest := [vi r]) (ok_X12_follow e2) dl_880 wl_99 (mO11 (by decide)) (by decide) rfl rfl (Nat.le_of_ble_eq_true rfl) hk hn ?_
  exact Wl.icmp_eq (tgt := 1706) dl_883 rfl (fun _ => K _ hR) (fun z => absurd rfl z)
theorem br_19 (hL : L ≤ 3072) (hi : i + 6 ≤ L) (hk : k ≤ 600000) (hn : n ≤ 7302250) (h : Rel σ) (K : ∀ τ, Rel τ → Wl L xs k n 1706 (lsL i) [] (hp τ)) : Wl L xs k n 888 (lsL i) [] (hp σ) := by
  obtain ⟨r, σ1, σ2, e1, e2, hR⟩ := lf_loosen  h
  refine Wl.aload_n dl_888 rfl ?_
  refine Wl.call (r := vi r) (σ' := σ1) (as := []) (rest := []) (ok_X11_loosen e1) dl_889 wl_100 (mO10 (by decide)) (by decide) rfl rfl (Nat.le_of_ble_eq_true rfl) hk hn ?_
  refine Wl.aload_n dl_892 rfl ?_
  refine Wl.call (r := vi r) (σ' := σ2) (as := []) (rest := [vi r]) (ok_X12_loosen e2) dl_893 wl_103 (mO11 (by decide)) (by decide) rfl rfl (Nat.le_of_ble_eq_true rfl) hk hn ?_
  exact Wl.icmp_eq (tgt := 1706) dl_896 rfl (fun _ => K _ hR) (fun z => absurd rfl z)
theorem br_20 (hL : L ≤ 3072) (hi : i + 6 ≤ L) (hk : k ≤ 600000) (hn : n ≤ 7302250) (h : Rel σ) (K : ∀ τ, Rel τ → Wl L xs k n 1706 (lsL i) [] (hp τ)) : Wl L xs k n 901 (lsL i) [] (hp σ) := by
  obtain ⟨r, σ1, σ2, e1, e2, hR⟩ := lf_pull (xs (i + 1)) h
  refine Wl.aload_n dl_901 rfl ?_
  refine Wl.arg (j := 1) hL hi (by decide) ic_1 dl_902 dl_903 dl_904 dl_905 dl_906 ?_
  refine Wl.call (r := vi r) (σ' := σ1) (as := [vi (xs (i + 1))]) (rest := []) (ok_X11_pull e1) dl_907 wl_104 (mO10 (by decide)) (by decide) rfl rfl (Nat.le_of_ble_eq_true rfl) hk hn ?_
  refine Wl.aload_n dl_910 rfl ?_
  refine Wl.arg (j := 1) hL hi (by decide) ic_1 dl_911 dl_912 dl_913 dl_914 dl_915 ?_
  refine Wl.call (r := vi r) (σ' := σ2) (as := [vi (xs (i + 1))]) (rest := [vi r]) (ok_X12_pull e2) dl_916 wl_107 (mO11 (by decide)) (by decide) rfl rfl (Nat.le_of_ble_eq_true rfl) hk hn ?_
  exact Wl.icmp_eq (tgt := 1706) dl_919 rfl (fun _ => K _ hR) (fun z => absurd rfl z)
theorem br_21 (hL : L ≤ 3072) (hi : i + 6 ≤ L) (hk : k ≤ 600000) (hn : n ≤ 7302250) (h : Rel σ) (K : ∀ τ, Rel τ → Wl L xs k n 1706 (lsL i) [] (hp τ)) : Wl L xs k n 924 (lsL i) [] (hp σ) := by
  obtain ⟨r, σ1, σ2, e1, e2, hR⟩ := lf_cut (xs (i + 1)) h
  refine Wl.aload_n dl_924 rfl ?_
  refine Wl.arg (j := 1) hL hi (by decide) ic_1 dl_925 dl_926 dl_927 dl_928 dl_929 ?_
  refine Wl.call (r := vi r) (σ' := σ1) (as := [vi (xs (i + 1))]) (rest := []) (ok_X11_cut e1) dl_930 wl_108 (mO10 (by decide)) (by decide) rfl rfl (Nat.le_of_ble_eq_true rfl) hk hn ?_
  refine Wl.aload_n dl_933 rfl ?_
  refine Wl.arg (j := 1) hL hi (by decide) ic_1 dl_934 dl_935 dl_936 dl_937 dl_938 ?_
  refine Wl.call (r := vi r) (σ' := σ2) (as := [vi (xs (i + 1))]) (rest := [vi r]) (ok_X12_cut_ e2) dl_939 wl_111 (mO11 (by decide)) (by decide) rfl rfl (Nat.le_of_ble_eq_true rfl) hk hn ?_
  exact Wl.icmp_eq (tgt := 1706) dl_942 rfl (fun _ => K _ hR) (fun z => absurd rfl z)
theorem br_22 (hL : L ≤ 3072) (hi : i + 6 ≤ L) (hk : k ≤ 600000) (hn : n ≤ 7302250) (h : Rel σ) (K : ∀ τ, Rel τ → Wl L xs k n 1706 (lsL i) [] (hp τ)) : Wl L xs k n 947 (lsL i) [] (hp σ) := by
  obtain ⟨r, σ1, σ2, e1, e2, hR⟩ := lf_clip (xs (i + 1)) h
  refine Wl.aload_n dl_947 rfl ?_
  refine Wl.arg (j := 1) hL hi (by decide) ic_1 dl_948 dl_949 dl_950 dl_951 dl_952 ?_
  refine Wl.call (r := vi r) (σ' := σ1) (as := [vi (xs (i + 1))]) (rest := []) (ok_X11_clip e1) dl_953 wl_112 (mO10 (by decide)) (by decide) rfl rfl (Nat.le_of_ble_eq_true rfl) hk hn ?_
  refine Wl.aload_n dl_956 rfl ?_
  refine Wl.arg (j := 1) hL hi (by decide) ic_1 dl_957 dl_958 dl_959 dl_960 dl_961 ?_
  refine Wl.call (r := vi r) (σ' := σ2) (as := [vi (xs (i + 1))]) (rest := [vi r]) (ok_X12_clip e2) dl_962 wl_116 (mO11 (by decide)) (by decide) rfl rfl (Nat.le_of_ble_eq_true rfl) hk hn ?_
  exact Wl.icmp_eq (tgt := 1706) dl_965 rfl (fun _ => K _ hR) (fun z => absurd rfl z)
theorem br_23 (hL : L ≤ 3072) (hi : i + 6 ≤ L) (hk : k ≤ 600000) (hn : n ≤ 7302250) (h : Rel σ) (K : ∀ τ, Rel τ → Wl L xs k n 1706 (lsL i) [] (hp τ)) : Wl L xs k n 970 (lsL i) [] (hp σ) := by
  obtain ⟨r, σ1, σ2, e1, e2, hR⟩ := lf_unclip (xs (i + 1)) h
  refine Wl.aload_n dl_970 rfl ?_
  refine Wl.arg (j := 1) hL hi (by decide) ic_1 dl_971 dl_972 dl_973 dl_974 dl_975 ?_
  refine Wl.call (r := vi r) (σ' := σ1) (as := [vi (xs (i + 1))]) (rest := []) (ok_X11_unclip e1) dl_976 wl_117 (mO10 (by decide)) (by decide) rfl rfl (Nat.le_of_ble_eq_true rfl) hk hn ?_
  refine Wl.aload_n dl_979 rfl ?_
  refine Wl.arg (j := 1) hL hi (by decide) ic_1 dl_980 dl_981 dl_982 dl_983 dl_984 ?_
  refine Wl.call (r := vi r) (σ' := σ2) (as := [vi (xs (i + 1))]) (rest := [vi r]) (ok_X12_unclip e2) dl_985 wl_120 (mO11 (by decide)) (by decide) rfl rfl (Nat.le_of_ble_eq_true rfl) hk hn ?_
  exact Wl.icmp_eq (tgt := 1706) dl_988 rfl (fun _ => K _ hR) (fun z => absurd rfl z)
theorem br_24 (hL : L ≤ 3072) (hi : i + 6 ≤ L) (hk : k ≤ 600000) (hn : n ≤ 7302250) (h : Rel σ) (K : ∀ τ, Rel τ → Wl L xs k n 1706 (lsL i) [] (hp τ)) : Wl L xs k n 993 (lsL i) [] (hp σ) := by
  obtain ⟨r, σ1, σ2, e1, e2, hR⟩ := lf_cross (xs (i + 1)) (xs (i + 2)) (xs (i + 3)) h
  refine Wl.aload_n dl_993 rfl ?_
  refine Wl.arg (j := 1) hL hi (by decide) ic_1 dl_994 dl_995 dl_996 dl_997 dl_998 ?_
  refine Wl.arg (j := 2) hL hi (by decide) ic_2 dl_999 dl_1000 dl_1001 dl_1002 dl_1003 ?_
  refine Wl.arg (j := 3) hL hi (by decide) ic_3 dl_1004 dl_1005 dl_1006 dl_1007 dl_1008 ?_
  refine Wl.call (r := vi r) (σ' := σ1) (as := [vi (xs (i + 1)), vi (xs (i + 2)), vi (xs (i + 3))]) (rest := []) (ok_X11_cross e1) dl_1009 wl_121 (mO10 (by decide)) (by decide) rfl rfl (Nat.le_of_ble_eq_true rfl) hk hn ?_
  refine Wl.aload_n dl_1012 rfl ?_
  refine Wl.arg (j := 1) hL hi (by decide) ic_1 dl_1013 dl_1014 dl_1015 dl_1016 dl_1017 ?_
  refine Wl.arg (j := 2) hL hi (by decide) ic_2 dl_1018 dl_1019 dl_1020 dl_1021 dl_1022 ?_
  refine Wl.arg (j := 3) hL hi (by decide) ic_3 dl_1023 dl_1024 dl_1025 dl_1026 dl_1027 ?_
  refine Wl.call (r := vi r) (σ' := σ2) (as := [vi (xs (i + 1)), vi (xs (i + 2)), vi (xs (i + 3))]) (rest := [vi r]) (ok_X12_cross e2) dl_1028 wl_125 (mO11 (by decide)) (by decide) rfl rfl (Nat.le_of_ble_eq_true rfl) hk hn ?_
  exact Wl.icmp_eq (tgt := 1706) dl_1031 rfl (fun _ => K _ hR) (fun z => absurd rfl z)
theorem br_25 (hL : L ≤ 3072) (hi : i + 6 ≤ L) (hk : k ≤ 600000) (hn : n ≤ 7302250) (h : Rel σ) (K : ∀ τ, Rel τ → Wl L xs k n 1706 (lsL i) [] (hp τ)) : Wl L xs k n 1036 (lsL i) [] (hp σ) := by
  obtain ⟨r, σ1, σ2, e1, e2, hR⟩ := lf_open (xs (i + 1)) h
  refine Wl.aload_n dl_1036 rfl ?_
  refine Wl.arg (j := 1) hL hi (by decide) ic_1 dl_1037 dl_1038 dl_1039 dl_1040 dl_1041 ?_
  refine Wl.call (r := vi r) (σ' := σ1) (as := [vi (xs (i + 1))]) (rest := []) (ok_X11_open e1) dl_1042 wl_126 (mO10 (by decide)) (by decide) rfl rfl (Nat.le_of_ble_eq_true rfl) hk hn ?_
  refine Wl.aload_n dl_1045 rfl ?_
  refine Wl.arg (j := 1) hL hi (by decide) ic_1 dl_1046 dl_1047 dl_1048 dl_1049 dl_1050 ?_
  refine Wl.call (r := vi r) (σ' := σ2) (as := [vi (xs (i + 1))]) (rest := [vi r]) (ok_X12_open e2) dl_1051 wl_129 (mO11 (by decide)) (by decide) rfl rfl (Nat.le_of_ble_eq_true rfl) hk hn ?_
  exact Wl.icmp_eq (tgt := 1706) dl_1054 rfl (fun _ => K _ hR) (fun z => absurd rfl z)
theorem br_26 (hL : L ≤ 3072) (hi : i + 6 ≤ L) (hk : k ≤ 600000) (hn : n ≤ 7302250) (h : Rel σ) (K : ∀ τ, Rel τ → Wl L xs k n 1706 (lsL i) [] (hp τ)) : Wl L xs k n 1059 (lsL i) [] (hp σ) := by
  obtain ⟨r, σ1, σ2, e1, e2, hR⟩ := lf_lump (xs (i + 1)) h
  refine Wl.aload_n dl_1059 rfl ?_
  refine Wl.arg (j := 1) hL hi (by decide) ic_1 dl_1060 dl_1061 dl_1062 dl_1063 dl_1064 ?_
  refine Wl.call (r := vi r) (σ' := σ1) (as := [vi (xs (i + 1))]) (rest := []) (ok_X11_lump e1) dl_1065 wl_130 (mO10 (by decide)) (by decide) rfl rfl (Nat.le_of_ble_eq_true rfl) hk hn ?_
  refine Wl.aload_n dl_1068 rfl ?_
  refine Wl.arg (j := 1) hL hi (by decide) ic_1 dl_1069 dl_1070 dl_1071 dl_1072 dl_1073 ?_
  refine Wl.call (r := vi r) (σ' := σ2) (as := [vi (xs (i + 1))]) (rest := [vi r]) (ok_X12_lump e2) dl_1074 wl_133 (mO11 (by decide)) (by decide) rfl rfl (Nat.le_of_ble_eq_true rfl) hk hn ?_
  exact Wl.icmp_eq (tgt := 1706) dl_1077 rfl (fun _ => K _ hR) (fun z => absurd rfl z)
theorem br_27 (hL : L ≤ 3072) (hi : i + 6 ≤ L) (hk : k ≤ 600000) (hn : n ≤ 7302250) (h : Rel σ) (K : ∀ τ, Rel τ → Wl L xs k n 1706 (lsL i) [] (hp τ)) : Wl L xs k n 1082 (lsL i) [] (hp σ) := by
  obtain ⟨r, σ1, σ2, e1, e2, hR⟩ := lf_lumps (xs (i + 1)) h
  refine Wl.aload_n dl_1082 rfl ?_
  refine Wl.arg (j := 1) hL hi (by decide) ic_1 dl_1083 dl_1084 dl_1085 dl_1086 dl_1087 ?_
  refine Wl.call (r := vi r) (σ' := σ1) (as := [vi (xs (i + 1))]) (rest := []) (ok_X11_lumps e1) dl_1088 wl_134 (mO10 (by decide)) (by decide) rfl rfl (Nat.le_of_ble_eq_true rfl) hk hn ?_
  refine Wl.aload_n dl_1091 rfl ?_
  refine Wl.arg (j := 1) hL hi (by decide) ic_1 dl_1092 dl_1093 dl_1094 dl_1095 dl_1096 ?_
  refine Wl.call (r := vi r) (σ' := σ2) (as := [vi (xs (i + 1))]) (rest := [vi r]) (ok_X12_lumps e2) dl_1097 wl_137 (mO11 (by decide)) (by decide) rfl rfl (Nat.le_of_ble_eq_true rfl) hk hn ?_
  exact Wl.icmp_eq (tgt := 1706) dl_1100 rfl (fun _ => K _ hR) (fun z => absurd rfl z)
theorem br_28 (hL : L ≤ 3072) (hi : i + 6 ≤ L) (hk : k ≤ 600000) (hn : n ≤ 7302250) (h : Rel σ) (K : ∀ τ, Rel τ → Wl L xs k n 1706 (lsL i) [] (hp τ)) : Wl L xs k n 1105 (lsL i) [] (hp σ) := by
  obtain ⟨r, σ1, σ2, e1, e2, hR⟩ := lf_comes (xs (i + 1)) h
  refine Wl.aload_n dl_1105 rfl ?_
  refine Wl.arg (j := 1) hL hi (by decide) ic_1 dl_1106 dl_1107 dl_1108 dl_1109 dl_1110 ?_
  refine Wl.call (r := vi r) (σ' := σ1) (as := [vi (xs (i + 1))]) (rest := []) (ok_X11_comes e1) dl_1111 wl_138 (mO10 (by decide)) (by decide) rfl rfl (Nat.le_of_ble_eq_true rfl) hk hn ?_
  refine Wl.aload_n dl_1114 rfl ?_
  refine Wl.arg (j := 1) hL hi (by decide) ic_1 dl_1115 dl_1116 dl_1117 dl_1118 dl_1119 ?_
  refine Wl.call (r := vi r) (σ' := σ2) (as := [vi (xs (i + 1))]) (rest := [vi r]) (ok_X12_comes e2) dl_1120 wl_141 (mO11 (by decide)) (by decide) rfl rfl (Nat.le_of_ble_eq_true rfl) hk hn ?_
  exact Wl.icmp_eq (tgt := 1706) dl_1123 rfl (fun _ => K _ hR) (fun z => absurd rfl z)
theorem br_29 (hL : L ≤ 3072) (hi : i + 6 ≤ L) (hk : k ≤ 600000) (hn : n ≤ 7302250) (h : Rel σ) (K : ∀ τ, Rel τ → Wl L xs k n 1706 (lsL i) [] (hp τ)) : Wl L xs k n 1128 (lsL i) [] (hp σ) := by
  obtain ⟨r, σ1, σ2, e1, e2, hR⟩ := lf_easy  h
  refine Wl.aload_n dl_1128 rfl ?_
  refine Wl.call (r := vi r) (σ' := σ1) (as := []) (rest := []) (ok_X11_easy e1) dl_1129 wl_142 (mO10 (by decide)) (by decide) rfl rfl (Nat.le_of_ble_eq_true rfl) hk hn ?_
  refine Wl.aload_n dl_1132 rfl ?_
  refine Wl.call (r := vi r) (σ' := σ2) (as := []) (rest := [vi r]) (ok_X12_easy e2) dl_1133 wl_145 (mO11 (by decide)) (by decide) rfl rfl (Nat.le_of_ble_eq_true rfl) hk hn ?_
  exact Wl.icmp_eq (tgt := 1706) dl_1136 rfl (fun _ => K _ hR) (fun z => absurd rfl z)
theorem br_30 (hL : L ≤ 3072) (hi : i + 6 ≤ L) (hk : k ≤ 600000) (hn : n ≤ 7302250) (h : Rel σ) (K : ∀ τ, Rel τ → Wl L xs k n 1706 (lsL i) [] (hp τ)) : Wl L xs k n 1141 (lsL i) [] (hp σ) := by
  obtain ⟨r, σ1, σ2, e1, e2, hR⟩ := lf_free (xs (i + 1)) h
  refine Wl.aload_n dl_1141 rfl ?_
  refine Wl.arg (j := 1) hL hi (by decide) ic_1 dl_1142 dl_1143 dl_1144 dl_1145 dl_1146 ?_
  refine Wl.call (r := vi r) (σ' := σ1) (as := [vi (xs (i + 1))]) (rest := []) (ok_X11_free e1) dl_1147 wl_146 (mO10 (by decide)) (by decide) rfl rfl (Nat.le_of_ble_eq_true rfl) hk hn ?_
  refine Wl.aload_n dl_1150 rfl ?_
  refine Wl.arg (j := 1) hL hi (by decide) ic_1 dl_1151 dl_1152 dl_1153 dl_1154 dl_1155 ?_
  refine Wl.call (r := vi r) (σ' := σ2) (as := [vi (xs (i + 1))]) (rest := [vi r]) (ok_X12_free e2) dl_1156 wl_149 (mO11 (by decide)) (by decide) rfl rfl (Nat.le_of_ble_eq_true rfl) hk hn ?_
  exact Wl.icmp_eq (tgt := 1706) dl_1159 rfl (fun _ => K _ hR) (fun z => absurd rfl z)
theorem br_31 (hL : L ≤ 3072) (hi : i + 6 ≤ L) (hk : k ≤ 600000) (hn : n ≤ 7302250) (h : Rel σ) (K : ∀ τ, Rel τ → Wl L xs k n 1706 (lsL i) [] (hp τ)) : Wl L xs k n 1164 (lsL i) [] (hp σ) := by
  obtain ⟨r, σ1, σ2, e1, e2, hR⟩ := lf_inState (xs (i + 1)) h
  refine Wl.aload_n dl_1164 rfl ?_
  refine Wl.arg (j := 1) hL hi (by decide) ic_1 dl_1165 dl_1166 dl_1167 dl_1168 dl_1169 ?_
  refine Wl.call (r := vi r) (σ' := σ1) (as := [vi (xs (i + 1))]) (rest := []) (ok_X11_inState e1) dl_1170 wl_150 (mO10 (by decide)) (by decide) rfl rfl (Nat.le_of_ble_eq_true rfl) hk hn ?_
  refine Wl.aload_n dl_1173 rfl ?_
  refine Wl.arg (j := 1) hL hi (by decide) ic_1 dl_1174 dl_1175 dl_1176 dl_1177 dl_1178 ?_
  refine Wl.call (r := vi r) (σ' := σ2) (as := [vi (xs (i + 1))]) (rest := [vi r]) (ok_X12_inState e2) dl_1179 wl_153 (mO11 (by decide)) (by decide) rfl rfl (Nat.le_of_ble_eq_true rfl) hk hn ?_
  exact Wl.icmp_eq (tgt := 1706) dl_1182 rfl (fun _ => K _ hR) (fun z => absurd rfl z)
theorem br_32 (hL : L ≤ 3072) (hi : i + 6 ≤ L) (hk : k ≤ 600000) (hn : n ≤ 7302250) (h : Rel σ) (K : ∀ τ, Rel τ → Wl L xs k n 1706 (lsL i) [] (hp τ)) : Wl L xs k n 1187 (lsL i) [] (hp σ) := by
  obtain ⟨r, σ1, σ2, e1, e2, hR⟩ := lf_worse (xs (i + 1)) (xs (i + 2)) h
  refine Wl.aload_n dl_1187 rfl ?_
  refine Wl.arg (j := 1) hL hi (by decide) ic_1 dl_1188 dl_1189 dl_1190 dl_1191 dl_1192 ?_
  refine Wl.arg (j := 2) hL hi (by decide) ic_2 dl_1193 dl_1194 dl_1195 dl_1196 dl_1197 ?_
  refine Wl.call (r := vi r) (σ' := σ1) (as := [vi (xs (i + 1)), vi (xs (i + 2))]) (rest := []) (ok_X11_worse e1) dl_1198 wl_154 (mO10 (by decide)) (by decide) rfl rfl (Nat.le_of_ble_eq_true rfl) hk hn ?_
  refine Wl.aload_n dl_1201 rfl ?_
  refine Wl.arg (j := 1) hL hi (by decide) ic_1 dl_1202 dl_1203 dl_1204 dl_1205 dl_1206 ?_
  refine Wl.arg (j := 2) hL hi (by decide) ic_2 dl_1207 dl_1208 dl_1209 dl_1210 dl_1211 ?_
  refine Wl.call (r := vi r) (σ' := σ2) (as := [vi (xs (i + 1)), vi (xs (i + 2))]) (rest := [vi r]) (ok_X12_worse e2) dl_1212 wl_157 (mO11 (by decide)) (by decide) rfl rfl (Nat.le_of_ble_eq_true rfl) hk hn ?_
  exact Wl.icmp_eq (tgt := 1706) dl_1215 rfl (fun _ => K _ hR) (fun z => absurd rfl z)
theorem br_33 (hL : L ≤ 3072) (hi : i + 6 ≤ L) (hk : k ≤ 600000) (hn : n ≤ 7302250) (h : Rel σ) (K : ∀ τ, Rel τ → Wl L xs k n 1706 (lsL i) [] (hp τ)) : Wl L xs k n 1220 (lsL i) [] (hp σ) := by
  obtain ⟨r, σ1, σ2, e1, e2, hR⟩ := lf_worst  h
  refine Wl.aload_n dl_1220 rfl ?_
  refine Wl.call (r := vi r) (σ' := σ1) (as := []) (rest := []) (ok_X11_worst e1) dl_1221 wl_158 (mO10 (by decide)) (by decide) rfl rfl (Nat.le_of_ble_eq_true rfl) hk hn ?_
  refine Wl.aload_n dl_1224 rfl ?_
  refine Wl.call (r := vi r) (σ' := σ2) (as := []) (rest := [vi r]) (ok_X12_worst e2) dl_1225 wl_161 (mO11 (by decide)) (by decide) rfl rfl (Nat.le_of_ble_eq_true rfl) hk hn ?_
  exact Wl.icmp_eq (tgt := 1706) dl_1228 rfl (fun _ => K _ hR) (fun z => absurd rfl z)
theorem br_34 (hL : L ≤ 3072) (hi : i + 6 ≤ L) (hk : k ≤ 600000) (hn : n ≤ 7302250) (h : Rel σ) (K : ∀ τ, Rel τ → Wl L xs k n 1706 (lsL i) [] (hp τ)) : Wl L xs k n 1233 (lsL i) [] (hp σ) := by
  obtain ⟨r, σ1, σ2, e1, e2, hR⟩ := lf_key  h
  refine Wl.aload_n dl_1233 rfl ?_
  refine Wl.call (r := vi r) (σ' := σ1) (as := []) (rest := []) (ok_X11_key e1) dl_1234 wl_162 (mO10 (by decide)) (by decide) rfl rfl (Nat.le_of_ble_eq_true rfl) hk hn ?_
  refine Wl.aload_n dl_1237 rfl ?_
  refine Wl.call (r := vi r) (σ' := σ2) (as := []) (rest := [vi r]) (ok_X12_key e2) dl_1238 wl_165 (mO11 (by decide)) (by decide) rfl rfl (Nat.le_of_ble_eq_true rfl) hk hn ?_
  exact Wl.icmp_eq (tgt := 1706) dl_1241 rfl (fun _ => K _ hR) (fun z => absurd rfl z)
theorem br_35 (hL : L ≤ 3072) (hi : i + 6 ≤ L) (hk : k ≤ 600000) (hn : n ≤ 7302250) (h : Rel σ) (K : ∀ τ, Rel τ → Wl L xs k n 1706 (lsL i) [] (hp τ)) : Wl L xs k n 1246 (lsL i) [] (hp σ) := by
  obtain ⟨r, σ1, σ2, e1, e2, hR⟩ := lf_alone (xs (i + 1)) h
  refine Wl.aload_n dl_1246 rfl ?_
  refine Wl.arg (j := 1) hL hi (by decide) ic_1 dl_1247 dl_1248 dl_1249 dl_1250 dl_1251 ?_
  refine Wl.call (r := vi r) (σ' := σ1) (as := [vi (xs (i + 1))]) (rest := []) (ok_X11_alone e1) dl_1252 wl_166 (mO10 (by decide)) (by decide) rfl rfl (Nat.le_of_ble_eq_true rfl) hk hn ?_
  refine Wl.aload_n dl_1255 rfl ?_
  refine Wl.arg (j := 1) hL hi (by decide) ic_1 dl_1256 dl_1257 dl_1258 dl_1259 dl_1260 ?_
  refine Wl.call (r := vi r) (σ' := σ2) (as := [vi (xs (i + 1))]) (rest := [vi r]) (ok_X12_alone e2) dl_1261 wl_169 (mO11 (by decide)) (by decide) rfl rfl (Nat.le_of_ble_eq_true rfl) hk hn ?_
  exact Wl.icmp_eq (tgt := 1706) dl_1264 rfl (fun _ => K _ hR) (fun z => absurd rfl z)
theorem br_36 (hL : L ≤ 3072) (hi : i + 6 ≤ L) (hk : k ≤ 600000) (hn : n ≤ 7302250) (h : Rel σ) (K : ∀ τ, Rel τ → Wl L xs k n 1706 (lsL i) [] (hp τ)) : Wl L xs k n 1269 (lsL i) [] (hp σ) := by
  obtain ⟨r, σ1, σ2, e1, e2, hR⟩ := lf_way (xs (i + 1)) h
  refine Wl.aload_n dl_1269 rfl ?_
  refine Wl.arg (j := 1) hL hi (by decide) ic_1 dl_1270 dl_1271 dl_1272 dl_1273 dl_1274 ?_
  refine Wl.call (r := vi r) (σ' := σ1) (as := [vi (xs (i + 1))]) (rest := []) (ok_X11_way e1) dl_1275 wl_170 (mO10 (by decide)) (by decide) rfl rfl (Nat.le_of_ble_eq_true rfl) hk hn ?_
  refine Wl.aload_n dl_1278 rfl ?_
  refine Wl.arg (j := 1) hL hi (by decide) ic_1 dl_1279 dl_1280 dl_1281 dl_1282 dl_1283 ?_
  refine Wl.call (r := vi r) (σ' := σ2) (as := [vi (xs (i + 1))]) (rest := [vi r]) (ok_X12_way e2) dl_1284 wl_173 (mO11 (by decide)) (by decide) rfl rfl (Nat.le_of_ble_eq_true rfl) hk hn ?_
  exact Wl.icmp_eq (tgt := 1706) dl_1287 rfl (fun _ => K _ hR) (fun z => absurd rfl z)
theorem br_37 (hL : L ≤ 3072) (hi : i + 6 ≤ L) (hk : k ≤ 600000) (hn : n ≤ 7302250) (h : Rel σ) (K : ∀ τ, Rel τ → Wl L xs k n 1706 (lsL i) [] (hp τ)) : Wl L xs k n 1292 (lsL i) [] (hp σ) := by
  obtain ⟨r, σ1, σ2, e1, e2, hR⟩ := lf_follows (xs (i + 1)) (xs (i + 2)) (xs (i + 3)) h
  refine Wl.aload_n dl_1292 rfl ?_
  refine Wl.arg (j := 1) hL hi (by decide) ic_1 dl_1293 dl_1294 dl_1295 dl_1296 dl_1297 ?_
  refine Wl.arg (j := 2) hL hi (by decide) ic_2 dl_1298 dl_1299 dl_1300 dl_1301 dl_1302 ?_
  refine Wl.arg (j := 3) hL hi (by decide) ic_3 dl_1303 dl_1304 dl_1305 dl_1306 dl_1307 ?_
  refine Wl.call (r := vi r) (σ' := σ1) (as := [vi (xs (i + 1)), vi (xs (i + 2)), vi (xs (i + 3))]) (rest := []) (ok_X11_follows e1) dl_1308 wl_174 (mO10 (by decide)) (by decide) rfl rfl (Nat.le_of_ble_eq_true rfl) hk hn ?_
  refine Wl.aload_n dl_1311 rfl ?_
  refine Wl.arg (j := 1) hL hi (by decide) ic_1 dl_1312 dl_1313 dl_1314 dl_1315 dl_1316 ?_
  refine Wl.arg (j := 2) hL hi (by decide) ic_2 dl_1317 dl_1318 dl_1319 dl_1320 dl_1321 ?_
  refine Wl.arg (j := 3) hL hi (by decide) ic_3 dl_1322 dl_1323 dl_1324 dl_1325 dl_1326 ?_
  refine Wl.call (r := vi r) (σ' := σ2) (as := [vi (xs (i + 1)), vi (xs (i + 2)), vi (xs (i + 3))]) (rest := [vi r]) (ok_X12_follows e2) dl_1327 wl_177 (mO11 (by decide)) (by decide) rfl rfl (Nat.le_of_ble_eq_true rfl) hk hn ?_
  exact Wl.icmp_eq (tgt := 1706) dl_1330 rfl (fun _ => K _ hR) (fun z => absurd rfl z)
theorem br_38 (hL : L ≤ 3072) (hi : i + 6 ≤ L) (hk : k ≤ 600000) (hn : n ≤ 7302250) (h : Rel σ) (K : ∀ τ, Rel τ → Wl L xs k n 1706 (lsL i) [] (hp τ)) : Wl L xs k n 1335 (lsL i) [] (hp σ) := by
  obtain ⟨r, σ1, σ2, e1, e2, hR⟩ := lf_all  h
  refine Wl.aload_n dl_1335 rfl ?_
  refine Wl.call (r := vi r) (σ' := σ1) (as := []) (rest := []) (ok_X11_all e1) dl_1336 wl_178 (mO10 (by decide)) (by decide) rfl rfl (Nat.le_of_ble_eq_true rfl) hk hn ?_
  refine Wl.aload_n dl_1339 rfl ?_
  refine Wl.call (r := vi r) (σ' := σ2) (as := []) (rest := [vi r]) (ok_X12_all e2) dl_1340 wl_181 (mO11 (by decide)) (by decide) rfl rfl (Nat.le_of_ble_eq_true rfl) hk hn ?_
  exact Wl.icmp_eq (tgt := 1706) dl_1343 rfl (fun _ => K _ hR) (fun z => absurd rfl z)
theorem br_39 (hL : L ≤ 3072) (hi : i + 6 ≤ L) (hk : k ≤ 600000) (hn : n ≤ 7302250) (h : Rel σ) (K : ∀ τ, Rel τ → Wl L xs k n 1706 (lsL i) [] (hp τ)) : Wl L xs k n 1348 (lsL i) [] (hp σ) := by
  obtain ⟨r, σ1, σ2, e1, e2, hR⟩ := lf_order (xs (i + 1)) h
  refine Wl.aload_n dl_1348 rfl ?_
  refine Wl.arg (j := 1) hL hi (by decide) ic_1 dl_1349 dl_1350 dl_1351 dl_1352 dl_1353 ?_
  refine Wl.call (r := vi r) (σ' := σ1) (as := [vi (xs (i + 1))]) (rest := []) (ok_X11_order e1) dl_1354 wl_182 (mO10 (by decide)) (by decide) rfl rfl (Nat.le_of_ble_eq_true rfl) hk hn ?_
  refine Wl.aload_n dl_1357 rfl ?_
  refine Wl.arg (j := 1) hL hi (by decide) ic_1 dl_1358 dl_1359 dl_1360 dl_1361 dl_1362 ?_
  refine Wl.call (r := vi r) (σ' := σ2) (as := [vi (xs (i + 1))]) (rest := [vi r]) (ok_X12_order e2) dl_1363 wl_185 (mO11 (by decide)) (by decide) rfl rfl (Nat.le_of_ble_eq_true rfl) hk hn ?_
  exact Wl.icmp_eq (tgt := 1706) dl_1366 rfl (fun _ => K _ hR) (fun z => absurd rfl z)
theorem br_40 (hL : L ≤ 3072) (hi : i + 6 ≤ L) (hk : k ≤ 600000) (hn : n ≤ 7302250) (h : Rel σ) (K : ∀ τ, Rel τ → Wl L xs k n 1706 (lsL i) [] (hp τ)) : Wl L xs k n 1371 (lsL i) [] (hp σ) := by
  obtain ⟨r, σ1, σ2, e1, e2, hR⟩ := lf_loosens  h
  refine Wl.aload_n dl_1371 rfl ?_
  refine Wl.call (r := vi r) (σ' := σ1) (as := []) (rest := []) (ok_X11_loosens e1) dl_1372 wl_186 (mO10 (by decide)) (by decide) rfl rfl (Nat.le_of_ble_eq_true rfl) hk hn ?_
  refine Wl.aload_n dl_1375 rfl ?_
  refine Wl.call (r := vi r) (σ' := σ2) (as := []) (rest := [vi r]) (ok_X12_loosens e2) dl_1376 wl_189 (mO11 (by decide)) (by decide) rfl rfl (Nat.le_of_ble_eq_true rfl) hk hn ?_
  exact Wl.icmp_eq (tgt := 1706) dl_1379 rfl (fun _ => K _ hR) (fun z => absurd rfl z)
theorem br_41 (hL : L ≤ 3072) (hi : i + 6 ≤ L) (hk : k ≤ 600000) (hn : n ≤ 7302250) (h : Rel σ) (K : ∀ τ, Rel τ → Wl L xs k n 1706 (lsL i) [] (hp τ)) : Wl L xs k n 1384 (lsL i) [] (hp σ) := by
  obtain ⟨r, σ1, σ2, e1, e2, hR⟩ := lf_soonest  h
  refine Wl.aload_n dl_1384 rfl ?_
  refine Wl.call (r := vi r) (σ' := σ1) (as := []) (rest := []) (ok_X11_soonest e1) dl_1385 wl_190 (mO10 (by decide)) (by decide) rfl rfl (Nat.le_of_ble_eq_true rfl) hk hn ?_
  refine Wl.aload_n dl_1388 rfl ?_
  refine Wl.call (r := vi r) (σ' := σ2) (as := []) (rest := [vi r]) (ok_X12_soonest e2) dl_1389 wl_193 (mO11 (by decide)) (by decide) rfl rfl (Nat.le_of_ble_eq_true rfl) hk hn ?_
  exact Wl.icmp_eq (tgt := 1706) dl_1392 rfl (fun _ => K _ hR) (fun z => absurd rfl z)
theorem br_42 (hL : L ≤ 3072) (hi : i + 6 ≤ L) (hk : k ≤ 600000) (hn : n ≤ 7302250) (h : Rel σ) (K : ∀ τ, Rel τ → Wl L xs k n 1706 (lsL i) [] (hp τ)) : Wl L xs k n 1397 (lsL i) [] (hp σ) := by
  obtain ⟨r, σ1, σ2, e1, e2, hR⟩ := lf_fresh (xs (i + 1)) (xs (i + 2)) h
  refine Wl.aload_n dl_1397 rfl ?_
  refine Wl.arg (j := 1) hL hi (by decide) ic_1 dl_1398 dl_1399 dl_1400 dl_1401 dl_1402 ?_
  refine Wl.arg (j := 2) hL hi (by decide) ic_2 dl_1403 dl_1404 dl_1405 dl_1406 dl_1407 ?_
  refine Wl.call (r := vi r) (σ' := σ1) (as := [vi (xs (i + 1)), vi (xs (i + 2))]) (rest := []) (ok_X11_fresh e1) dl_1408 wl_194 (mO10 (by decide)) (by decide) rfl rfl (Nat.le_of_ble_eq_true rfl) hk hn ?_
  refine Wl.aload_n dl_1411 rfl ?_
  refine Wl.arg (j := 1) hL hi (by decide) ic_1 dl_1412 dl_1413 dl_1414 dl_1415 dl_1416 ?_
  refine Wl.arg (j := 2) hL hi (by decide) ic_2 dl_1417 dl_1418 dl_1419 dl_1420 dl_1421 ?_
  refine Wl.call (r := vi r) (σ' := σ2) (as := [vi (xs (i + 1)), vi (xs (i + 2))]) (rest := [vi r]) (ok_X12_fresh e2) dl_1422 wl_198 (mO11 (by decide)) (by decide) rfl rfl (Nat.le_of_ble_eq_true rfl) hk hn ?_
  exact Wl.icmp_eq (tgt := 1706) dl_1425 rfl (fun _ => K _ hR) (fun z => absurd rfl z)
theorem br_43 (hL : L ≤ 3072) (hi : i + 6 ≤ L) (hk : k ≤ 600000) (hn : n ≤ 7302250) (h : Rel σ) (K : ∀ τ, Rel τ → Wl L xs k n 1706 (lsL i) [] (hp τ)) : Wl L xs k n 1430 (lsL i) [] (hp σ) := by
  obtain ⟨r, σ1, σ2, e1, e2, hR⟩ := lf_grows  h
  refine Wl.aload_n dl_1430 rfl ?_
  refine Wl.call (r := vi r) (σ' := σ1) (as := []) (rest := []) (ok_X11_grows e1) dl_1431 wl_199 (mO10 (by decide)) (by decide) rfl rfl (Nat.le_of_ble_eq_true rfl) hk hn ?_
  refine Wl.aload_n dl_1434 rfl ?_
  refine Wl.call (r := vi r) (σ' := σ2) (as := []) (rest := [vi r]) (ok_X12_grows e2) dl_1435 wl_203 (mO11 (by decide)) (by decide) rfl rfl (Nat.le_of_ble_eq_true rfl) hk hn ?_
  exact Wl.icmp_eq (tgt := 1706) dl_1438 rfl (fun _ => K _ hR) (fun z => absurd rfl z)
theorem br_44 (hL : L ≤ 3072) (hi : i + 6 ≤ L) (hk : k ≤ 600000) (hn : n ≤ 7302250) (h : Rel σ) (K : ∀ τ, Rel τ → Wl L xs k n 1706 (lsL i) [] (hp τ)) : Wl L xs k n 1443 (lsL i) [] (hp σ) := by
  obtain ⟨r, σ1, σ2, e1, e2, hR⟩ := lf_clips  h
  refine Wl.aload_n dl_1443 rfl ?_
  refine Wl.call (r := vi r) (σ' := σ1) (as := []) (rest := []) (ok_X11_clips e1) dl_1444 wl_204 (mO10 (by decide)) (by decide) rfl rfl (Nat.le_of_ble_eq_true rfl) hk hn ?_
  refine Wl.aload_n dl_1447 rfl ?_
  refine Wl.call (r := vi r) (σ' := σ2) (as := []) (rest := [vi r]) (ok_X12_clips e2) dl_1448 wl_207 (mO11 (by decide)) (by decide) rfl rfl (Nat.le_of_ble_eq_true rfl) hk hn ?_
  exact Wl.icmp_eq (tgt := 1706) dl_1451 rfl (fun _ => K _ hR) (fun z => absurd rfl z)
theorem br_45 (hL : L ≤ 3072) (hi : i + 6 ≤ L) (hk : k ≤ 600000) (hn : n ≤ 7302250) (h : Rel σ) (K : ∀ τ, Rel τ → Wl L xs k n 1706 (lsL i) [] (hp τ)) : Wl L xs k n 1456 (lsL i) [] (hp σ) := by
  obtain ⟨r, σ1, σ2, e1, e2, hR⟩ := lf_tries (xs (i + 1)) h
  refine Wl.aload_n dl_1456 rfl ?_
  refine Wl.arg (j := 1) hL hi (by decide) ic_1 dl_1457 dl_1458 dl_1459 dl_1460 dl_1461 ?_
  refine Wl.call (r := vi r) (σ' := σ1) (as := [vi (xs (i + 1))]) (rest := []) (ok_X11_tries e1) dl_1462 wl_208 (mO10 (by decide)) (by decide) rfl rfl (Nat.le_of_ble_eq_true rfl) hk hn ?_
  refine Wl.aload_n dl_1465 rfl ?_
  refine Wl.arg (j := 1) hL hi (by decide) ic_1 dl_1466 dl_1467 dl_1468 dl_1469 dl_1470 ?_
  refine Wl.call (r := vi r) (σ' := σ2) (as := [vi (xs (i + 1))]) (rest := [vi r]) (ok_X12_tries e2) dl_1471 wl_211 (mO11 (by decide)) (by decide) rfl rfl (Nat.le_of_ble_eq_true rfl) hk hn ?_
  exact Wl.icmp_eq (tgt := 1706) dl_1474 rfl (fun _ => K _ hR) (fun z => absurd rfl z)
theorem br_46 (hL : L ≤ 3072) (hi : i + 6 ≤ L) (hk : k ≤ 600000) (hn : n ≤ 7302250) (h : Rel σ) (K : ∀ τ, Rel τ → Wl L xs k n 1706 (lsL i) [] (hp τ)) : Wl L xs k n 1479 (lsL i) [] (hp σ) := by
  obtain ⟨r, σ1, σ2, e1, e2, hR⟩ := lf_nextTry (xs (i + 1)) (xs (i + 2)) h
  refine Wl.aload_n dl_1479 rfl ?_
  refine Wl.arg (j := 1) hL hi (by decide) ic_1 dl_1480 dl_1481 dl_1482 dl_1483 dl_1484 ?_
  refine Wl.arg (j := 2) hL hi (by decide) ic_2 dl_1485 dl_1486 dl_1487 dl_1488 dl_1489 ?_
  refine Wl.call (r := vi r) (σ' := σ1) (as := [vi (xs (i + 1)), vi (xs (i + 2))]) (rest := []) (ok_X11_nextTry e1) dl_1490 wl_212 (mO10 (by decide)) (by decide) rfl rfl (Nat.le_of_ble_eq_true rfl) hk hn ?_
  refine Wl.aload_n dl_1493 rfl ?_
  refine Wl.arg (j := 1) hL hi (by decide) ic_1 dl_1494 dl_1495 dl_1496 dl_1497 dl_1498 ?_
  refine Wl.arg (j := 2) hL hi (by decide) ic_2 dl_1499 dl_1500 dl_1501 dl_1502 dl_1503 ?_
  refine Wl.call (r := vi r) (σ' := σ2) (as := [vi (xs (i + 1)), vi (xs (i + 2))]) (rest := [vi r]) (ok_X12_nextTry e2) dl_1504 wl_215 (mO11 (by decide)) (by decide) rfl rfl (Nat.le_of_ble_eq_true rfl) hk hn ?_
  exact Wl.icmp_eq (tgt := 1706) dl_1507 rfl (fun _ => K _ hR) (fun z => absurd rfl z)
theorem br_47 (hL : L ≤ 3072) (hi : i + 6 ≤ L) (hk : k ≤ 600000) (hn : n ≤ 7302250) (h : Rel σ) (K : ∀ τ, Rel τ → Wl L xs k n 1706 (lsL i) [] (hp τ)) : Wl L xs k n 1512 (lsL i) [] (hp σ) := by
  obtain ⟨r, σ1, σ2, e1, e2, hR⟩ := lf_boxes (xs (i + 1)) h
  refine Wl.aload_n dl_1512 rfl ?_
  refine Wl.arg (j := 1) hL hi (by decide) ic_1 dl_1513 dl_1514 dl_1515 dl_1516 dl_1517 ?_
  refine Wl.call (r := vi r) (σ' := σ1) (as := [vi (xs (i + 1))]) (rest := []) (ok_X11_boxes e1) dl_1518 wl_216 (mO10 (by decide)) (by decide) rfl rfl (Nat.le_of_ble_eq_true rfl) hk hn ?_
  refine Wl.aload_n dl_1521 rfl ?_
  refine Wl.arg (j := 1) hL hi (by decide) ic_1 dl_1522 dl_1523 dl_1524 dl_1525 dl_1526 ?_
  refine Wl.call (r := vi r) (σ' := σ2) (as := [vi (xs (i + 1))]) (rest := [vi r]) (ok_X12_boxes e2) dl_1527 wl_219 (mO11 (by decide)) (by decide) rfl rfl (Nat.le_of_ble_eq_true rfl) hk hn ?_
  exact Wl.icmp_eq (tgt := 1706) dl_1530 rfl (fun _ => K _ hR) (fun z => absurd rfl z)
theorem br_48 (hL : L ≤ 3072) (hi : i + 6 ≤ L) (hk : k ≤ 600000) (hn : n ≤ 7302250) (h : Rel σ) (K : ∀ τ, Rel τ → Wl L xs k n 1706 (lsL i) [] (hp τ)) : Wl L xs k n 1535 (lsL i) [] (hp σ) := by
  obtain ⟨r, σ1, σ2, e1, e2, hR⟩ := lf_waste (xs (i + 1)) h
  refine Wl.aload_n dl_1535 rfl ?_
  refine Wl.arg (j := 1) hL hi (by decide) ic_1 dl_1536 dl_1537 dl_1538 dl_1539 dl_1540 ?_
  refine Wl.call (r := vi r) (σ' := σ1) (as := [vi (xs (i + 1))]) (rest := []) (ok_X11_waste e1) dl_1541 wl_220 (mO10 (by decide)) (by decide) rfl rfl (Nat.le_of_ble_eq_true rfl) hk hn ?_
  refine Wl.aload_n dl_1544 rfl ?_
  refine Wl.arg (j := 1) hL hi (by decide) ic_1 dl_1545 dl_1546 dl_1547 dl_1548 dl_1549 ?_
  refine Wl.call (r := vi r) (σ' := σ2) (as := [vi (xs (i + 1))]) (rest := [vi r]) (ok_X12_waste e2) dl_1550 wl_223 (mO11 (by decide)) (by decide) rfl rfl (Nat.le_of_ble_eq_true rfl) hk hn ?_
  exact Wl.icmp_eq (tgt := 1706) dl_1553 rfl (fun _ => K _ hR) (fun z => absurd rfl z)
theorem br_49 (hL : L ≤ 3072) (hi : i + 6 ≤ L) (hk : k ≤ 600000) (hn : n ≤ 7302250) (h : Rel σ) (K : ∀ τ, Rel τ → Wl L xs k n 1706 (lsL i) [] (hp τ)) : Wl L xs k n 1558 (lsL i) [] (hp σ) := by
  obtain ⟨r, σ1, σ2, e1, e2, hR⟩ := lf_live (xs (i + 1)) h
  refine Wl.aload_n dl_1558 rfl ?_
  refine Wl.arg (j := 1) hL hi (by decide) ic_1 dl_1559 dl_1560 dl_1561 dl_1562 dl_1563 ?_
  refine Wl.call (r := vi r) (σ' := σ1) (as := [vi (xs (i + 1))]) (rest := []) (ok_X11_live e1) dl_1564 wl_224 (mO10 (by decide)) (by decide) rfl rfl (Nat.le_of_ble_eq_true rfl) hk hn ?_
  refine Wl.aload_n dl_1567 rfl ?_
  refine Wl.arg (j := 1) hL hi (by decide) ic_1 dl_1568 dl_1569 dl_1570 dl_1571 dl_1572 ?_
  refine Wl.call (r := vi r) (σ' := σ2) (as := [vi (xs (i + 1))]) (rest := [vi r]) (ok_X12_live e2) dl_1573 wl_227 (mO11 (by decide)) (by decide) rfl rfl (Nat.le_of_ble_eq_true rfl) hk hn ?_
  exact Wl.icmp_eq (tgt := 1706) dl_1576 rfl (fun _ => K _ hR) (fun z => absurd rfl z)
theorem br_50 (hL : L ≤ 3072) (hi : i + 6 ≤ L) (hk : k ≤ 600000) (hn : n ≤ 7302250) (h : Rel σ) (K : ∀ τ, Rel τ → Wl L xs k n 1706 (lsL i) [] (hp τ)) : Wl L xs k n 1581 (lsL i) [] (hp σ) := by
  obtain ⟨r, σ1, σ2, e1, e2, hR⟩ := lf_lived (xs (i + 1)) h
  refine Wl.aload_n dl_1581 rfl ?_
  refine Wl.arg (j := 1) hL hi (by decide) ic_1 dl_1582 dl_1583 dl_1584 dl_1585 dl_1586 ?_
  refine Wl.call (r := vi r) (σ' := σ1) (as := [vi (xs (i + 1))]) (rest := []) (ok_X11_lived e1) dl_1587 wl_228 (mO10 (by decide)) (by decide) rfl rfl (Nat.le_of_ble_eq_true rfl) hk hn ?_
  refine Wl.aload_n dl_1590 rfl ?_
  refine Wl.arg (j := 1) hL hi (by decide) ic_1 dl_1591 dl_1592 dl_1593 dl_1594 dl_1595 ?_
  refine Wl.call (r := vi r) (σ' := σ2) (as := [vi (xs (i + 1))]) (rest := [vi r]) (ok_X12_lived e2) dl_1596 wl_231 (mO11 (by decide)) (by decide) rfl rfl (Nat.le_of_ble_eq_true rfl) hk hn ?_
  exact Wl.icmp_eq (tgt := 1706) dl_1599 rfl (fun _ => K _ hR) (fun z => absurd rfl z)
theorem br_51 (hL : L ≤ 3072) (hi : i + 6 ≤ L) (hk : k ≤ 600000) (hn : n ≤ 7302250) (h : Rel σ) (K : ∀ τ, Rel τ → Wl L xs k n 1706 (lsL i) [] (hp τ)) : Wl L xs k n 1604 (lsL i) [] (hp σ) := by
  obtain ⟨r, σ1, σ2, e1, e2, hR⟩ := lf_mean (xs (i + 1)) (xs (i + 2)) h
  refine Wl.aload_n dl_1604 rfl ?_
  refine Wl.arg (j := 1) hL hi (by decide) ic_1 dl_1605 dl_1606 dl_1607 dl_1608 dl_1609 ?_
  refine Wl.arg (j := 2) hL hi (by decide) ic_2 dl_1610 dl_1611 dl_1612 dl_1613 dl_1614 ?_
  refine Wl.call (r := vi r) (σ' := σ1) (as := [vi (xs (i + 1)), vi (xs (i + 2))]) (rest := []) (ok_X11_mean e1) dl_1615 wl_232 (mO10 (by decide)) (by decide) rfl rfl (Nat.le_of_ble_eq_true rfl) hk hn ?_
  refine Wl.aload_n dl_1618 rfl ?_
  refine Wl.arg (j := 1) hL hi (by decide) ic_1 dl_1619 dl_1620 dl_1621 dl_1622 dl_1623 ?_
  refine Wl.arg (j := 2) hL hi (by decide) ic_2 dl_1624 dl_1625 dl_1626 dl_1627 dl_1628 ?_
  refine Wl.call (r := vi r) (σ' := σ2) (as := [vi (xs (i + 1)), vi (xs (i + 2))]) (rest := [vi r]) (ok_X12_mean e2) dl_1629 wl_235 (mO11 (by decide)) (by decide) rfl rfl (Nat.le_of_ble_eq_true rfl) hk hn ?_
  exact Wl.icmp_eq (tgt := 1706) dl_1632 rfl (fun _ => K _ hR) (fun z => absurd rfl z)
theorem br_52 (hL : L ≤ 3072) (hi : i + 6 ≤ L) (hk : k ≤ 600000) (hn : n ≤ 7302250) (h : Rel σ) (K : ∀ τ, Rel τ → Wl L xs k n 1706 (lsL i) [] (hp τ)) : Wl L xs k n 1637 (lsL i) [] (hp σ) := by
  obtain ⟨r, σ1, σ2, e1, e2, hR⟩ := lf_odds (xs (i + 1)) (xs (i + 2)) (xs (i + 3)) h
  refine Wl.aload_n dl_1637 rfl ?_
  refine Wl.arg (j := 1) hL hi (by decide) ic_1 dl_1638 dl_1639 dl_1640 dl_1641 dl_1642 ?_
  refine Wl.arg (j := 2) hL hi (by decide) ic_2 dl_1643 dl_1644 dl_1645 dl_1646 dl_1647 ?_
  refine Wl.arg (j := 3) hL hi (by decide) ic_3 dl_1648 dl_1649 dl_1650 dl_1651 dl_1652 ?_
  refine Wl.call (r := vi r) (σ' := σ1) (as := [vi (xs (i + 1)), vi (xs (i + 2)), vi (xs (i + 3))]) (rest := []) (ok_X11_odds e1) dl_1653 wl_236 (mO10 (by decide)) (by decide) rfl rfl (Nat.le_of_ble_eq_true rfl) hk hn ?_
  refine Wl.aload_n dl_1656 rfl ?_
  refine Wl.arg (j := 1) hL hi (by decide) ic_1 dl_1657 dl_1658 dl_1659 dl_1660 dl_1661 ?_
  refine Wl.arg (j := 2) hL hi (by decide) ic_2 dl_1662 dl_1663 dl_1664 dl_1665 dl_1666 ?_
  refine Wl.arg (j := 3) hL hi (by decide) ic_3 dl_1667 dl_1668 dl_1669 dl_1670 dl_1671 ?_
  refine Wl.call (r := vi r) (σ' := σ2) (as := [vi (xs (i + 1)), vi (xs (i + 2)), vi (xs (i + 3))]) (rest := [vi r]) (ok_X12_odds e2) dl_1672 wl_239 (mO11 (by decide)) (by decide) rfl rfl (Nat.le_of_ble_eq_true rfl) hk hn ?_
  exact Wl.icmp_eq (tgt := 1706) dl_1675 rfl (fun _ => K _ hR) (fun z => absurd rfl z)
theorem br_53 (hL : L ≤ 3072) (hi : i + 6 ≤ L) (hk : k ≤ 600000) (hn : n ≤ 7302250) (h : Rel σ) (K : ∀ τ, Rel τ → Wl L xs k n 1706 (lsL i) [] (hp τ)) : Wl L xs k n 1680 (lsL i) [] (hp σ) := by
  obtain ⟨r, σ1, σ2, e1, e2, hR⟩ := lf_mark  h
  refine Wl.aload_n dl_1680 rfl ?_
  refine Wl.call (r := vi r) (σ' := σ1) (as := []) (rest := []) (ok_X11_mark e1) dl_1681 wl_240 (mO10 (by decide)) (by decide) rfl rfl (Nat.le_of_ble_eq_true rfl) hk hn ?_
  refine Wl.aload_n dl_1684 rfl ?_
  refine Wl.call (r := vi r) (σ' := σ2) (as := []) (rest := [vi r]) (ok_X12_mark e2) dl_1685 wl_243 (mO11 (by decide)) (by decide) rfl rfl (Nat.le_of_ble_eq_true rfl) hk hn ?_
  exact Wl.icmp_eq (tgt := 1706) dl_1688 rfl (fun _ => K _ hR) (fun z => absurd rfl z)
theorem br_54 (hL : L ≤ 3072) (hi : i + 6 ≤ L) (hk : k ≤ 600000) (hn : n ≤ 7302250) (h : Rel σ) (K : ∀ τ, Rel τ → Wl L xs k n 1706 (lsL i) [] (hp τ)) : Wl L xs k n 1693 (lsL i) [] (hp σ) := by
  obtain ⟨r, σ1, σ2, e1, e2, hR⟩ := lf_back  h
  refine Wl.aload_n dl_1693 rfl ?_
  refine Wl.call (r := vi r) (σ' := σ1) (as := []) (rest := []) (ok_X11_back e1) dl_1694 wl_244 (mO10 (by decide)) (by decide) rfl rfl (Nat.le_of_ble_eq_true rfl) hk hn ?_
  refine Wl.aload_n dl_1697 rfl ?_
  refine Wl.call (r := vi r) (σ' := σ2) (as := []) (rest := [vi r]) (ok_X12_back e2) dl_1698 wl_247 (mO11 (by decide)) (by decide) rfl rfl (Nat.le_of_ble_eq_true rfl) hk hn ?_
  exact Wl.icmp_eq (tgt := 1706) dl_1701 rfl (fun _ => K _ hR) (fun z => absurd rfl z)
end BRL
