/-! THE LAW: the 76 calls -/
-- feed
theorem lq_k0 {G : Gx} {b L i : Nat} {xs : Nat → Int32} {w : HW} (C : Cx G code "SacredHensLaw" 4 15 560) (X : Lx G b L xs) (hin : ∀ j : Int32, 0 ≤ j → j ≤ 5 → vp_in (nI i + j) L) (H : Rel w) (next : ∀ w1, Rel w1 → Sm G () 2282 (LV G b i) [] w1 (some ())) : Sm G () 352 (LV G b i) [] w (some ()) := by
  obtain ⟨r, w1, w2, e1, e2, R⟩ := ag_feed H (xs (nI i + 1).toNatClampNeg) (xs (nI i + 2).toNatClampNeg) (xs (nI i + 3).toNatClampNeg) (xs (nI i + 4).toNatClampNeg) (xs (nI i + 5).toNatClampNeg)
  refine sm_aload_n C 2 rfl dL_352 rfl ?_
  refine sm_aload_n C 3 rfl dL_353 rfl ?_
  refine sm_iload_n C 0 rfl dL_354 rfl ?_
  refine sm_iconst C (v := 1) (by decide) dL_355 ?_
  refine sm_iadd C dL_356 ?_
  refine sl_sld C X (hin 1 (by decide) (by decide)) dL_357 ?_
  refine sm_aload_n C 3 rfl dL_358 rfl ?_
  refine sm_iload_n C 0 rfl dL_359 rfl ?_
  refine sm_iconst C (v := 2) (by decide) dL_360 ?_
  refine sm_iadd C dL_361 ?_
  refine sl_sld C X (hin 2 (by decide) (by decide)) dL_362 ?_
  refine sm_aload_n C 3 rfl dL_363 rfl ?_
  refine sm_iload_n C 0 rfl dL_364 rfl ?_
  refine sm_iconst C (v := 3) (by decide) dL_365 ?_
  refine sm_iadd C dL_366 ?_
  refine sl_sld C X (hin 3 (by decide) (by decide)) dL_367 ?_
  refine sm_aload_n C 3 rfl dL_368 rfl ?_
  refine sm_iload_n C 0 rfl dL_369 rfl ?_
  refine sm_iconst C (v := 4) (by decide) dL_370 ?_
  refine sm_iadd C dL_371 ?_
  refine sl_sld C X (hin 4 (by decide) (by decide)) dL_372 ?_
  refine sm_aload_n C 3 rfl dL_373 rfl ?_
  refine sm_iload_n C 0 rfl dL_374 rfl ?_
  refine sm_iconst C (v := 5) (by decide) dL_375 ?_
  refine sm_iadd C dL_376 ?_
  refine sl_sld C X (hin 5 (by decide) (by decide)) dL_377 ?_
  refine sl_callI (As := [.int (xs (nI i + 1).toNatClampNeg), .int (xs (nI i + 2).toNatClampNeg), .int (xs (nI i + 3).toNatClampNeg), .int (xs (nI i + 4).toNatClampNeg), .int (xs (nI i + 5).toNatClampNeg)]) (ny := 6) (fr' := 1) (lo' := 22) C cfX9_feed wl0 kd_0 rfl rfl rfl rfl rfl dL_378 (mX9_feed e1) ?_
  refine sm_aload_n C 1 rfl dL_381 rfl ?_
  refine sm_aload_n C 3 rfl dL_382 rfl ?_
  refine sm_iload_n C 0 rfl dL_383 rfl ?_
  refine sm_iconst C (v := 1) (by decide) dL_384 ?_
  refine sm_iadd C dL_385 ?_
  refine sl_sld C X (hin 1 (by decide) (by decide)) dL_386 ?_
  refine sm_aload_n C 3 rfl dL_387 rfl ?_
  refine sm_iload_n C 0 rfl dL_388 rfl ?_
  refine sm_iconst C (v := 2) (by decide) dL_389 ?_
  refine sm_iadd C dL_390 ?_
  refine sl_sld C X (hin 2 (by decide) (by decide)) dL_391 ?_
  refine sm_aload_n C 3 rfl dL_392 rfl ?_
  refine sm_iload_n C 0 rfl dL_393 rfl ?_
  refine sm_iconst C (v := 3) (by decide) dL_394 ?_
  refine sm_iadd C dL_395 ?_
  refine sl_sld C X (hin 3 (by decide) (by decide)) dL_396 ?_
  refine sm_aload_n C 3 rfl dL_397 rfl ?_
  refine sm_iload_n C 0 rfl dL_398 rfl ?_
  refine sm_iconst C (v := 4) (by decide) dL_399 ?_
  refine sm_iadd C dL_400 ?_
  refine sl_sld C X (hin 4 (by decide) (by decide)) dL_401 ?_
  refine sm_aload_n C 3 rfl dL_402 rfl ?_
  refine sm_iload_n C 0 rfl dL_403 rfl ?_
  refine sm_iconst C (v := 5) (by decide) dL_404 ?_
  refine sm_iadd C dL_405 ?_
  refine sl_sld C X (hin 5 (by decide) (by decide)) dL_406 ?_
  refine sl_callI (As := [.int (xs (nI i + 1).toNatClampNeg), .int (xs (nI i + 2).toNatClampNeg), .int (xs (nI i + 3).toNatClampNeg), .int (xs (nI i + 4).toNatClampNeg), .int (xs (nI i + 5).toNatClampNeg)]) (ny := 7) (fr' := 0) (lo' := 0) C cfX10_feed wl1 kd_79 rfl rfl rfl rfl rfl dL_407 (mX10_feed e2) ?_
  exact sl_icmp_eq C dL_410 (tgt := 2282) rfl (next _ R)
-- end
theorem lq_k1 {G : Gx} {b L i : Nat} {xs : Nat → Int32} {w : HW} (C : Cx G code "SacredHensLaw" 4 15 560) (X : Lx G b L xs) (hin : ∀ j : Int32, 0 ≤ j → j ≤ 5 → vp_in (nI i + j) L) (H : Rel w) (next : ∀ w1, Rel w1 → Sm G () 2282 (LV G b i) [] w1 (some ())) : Sm G () 415 (LV G b i) [] w (some ()) := by
  obtain ⟨r, w1, w2, e1, e2, R⟩ := ag_end H (xs (nI i + 1).toNatClampNeg)
  refine sm_aload_n C 2 rfl dL_415 rfl ?_
  refine sm_aload_n C 3 rfl dL_416 rfl ?_
  refine sm_iload_n C 0 rfl dL_417 rfl ?_
  refine sm_iconst C (v := 1) (by decide) dL_418 ?_
  refine sm_iadd C dL_419 ?_
  refine sl_sld C X (hin 1 (by decide) (by decide)) dL_420 ?_
  refine sl_callI (As := [.int (xs (nI i + 1).toNatClampNeg)]) (ny := 2) (fr' := 0) (lo' := 0) C cfX9_end wl2 kd_0 rfl rfl rfl rfl rfl dL_421 (mX9_end e1) ?_
  refine sm_aload_n C 1 rfl dL_424 rfl ?_
  refine sm_aload_n C 3 rfl dL_425 rfl ?_
  refine sm_iload_n C 0 rfl dL_426 rfl ?_
  refine sm_iconst C (v := 1) (by decide) dL_427 ?_
  refine sm_iadd C dL_428 ?_
  refine sl_sld C X (hin 1 (by decide) (by decide)) dL_429 ?_
  refine sl_callI (As := [.int (xs (nI i + 1).toNatClampNeg)]) (ny := 2) (fr' := 1) (lo' := 25) C cfX10_end wl3 kd_79 rfl rfl rfl rfl rfl dL_430 (mX10_end e2) ?_
  exact sl_icmp_eq C dL_433 (tgt := 2282) rfl (next _ R)
-- camp
theorem lq_k2 {G : Gx} {b L i : Nat} {xs : Nat → Int32} {w : HW} (C : Cx G code "SacredHensLaw" 4 15 560) (X : Lx G b L xs) (hin : ∀ j : Int32, 0 ≤ j → j ≤ 5 → vp_in (nI i + j) L) (H : Rel w) (next : ∀ w1, Rel w1 → Sm G () 2282 (LV G b i) [] w1 (some ())) : Sm G () 438 (LV G b i) [] w (some ()) := by
  obtain ⟨r, w1, w2, e1, e2, R⟩ := ag_camp H 
  refine sm_aload_n C 2 rfl dL_438 rfl ?_
  refine sl_callI (As := []) (ny := 3) (fr' := 9) (lo' := 203) C cfX9_camp wl4 kd_0 rfl rfl rfl rfl rfl dL_439 (mX9_camp e1) ?_
  refine sm_aload_n C 1 rfl dL_442 rfl ?_
  refine sl_callI (As := []) (ny := 2) (fr' := 11) (lo' := 244) C cfX10_camp wl5 kd_79 rfl rfl rfl rfl rfl dL_443 (mX10_camp e2) ?_
  exact sl_icmp_eq C dL_446 (tgt := 2282) rfl (next _ R)
-- fault
theorem lq_k3 {G : Gx} {b L i : Nat} {xs : Nat → Int32} {w : HW} (C : Cx G code "SacredHensLaw" 4 15 560) (X : Lx G b L xs) (hin : ∀ j : Int32, 0 ≤ j → j ≤ 5 → vp_in (nI i + j) L) (H : Rel w) (next : ∀ w1, Rel w1 → Sm G () 2282 (LV G b i) [] w1 (some ())) : Sm G () 451 (LV G b i) [] w (some ()) := by
  obtain ⟨r, w1, w2, e1, e2, R⟩ := ag_fault H (xs (nI i + 1).toNatClampNeg)
  obtain ⟨e1, f1⟩ := pu_some e1
  subst f1
  obtain ⟨e2, f2⟩ := pu_some e2
  subst f2
  refine sm_aload_n C 2 rfl dL_451 rfl ?_
  refine sm_aload_n C 3 rfl dL_452 rfl ?_
  refine sm_iload_n C 0 rfl dL_453 rfl ?_
  refine sm_iconst C (v := 1) (by decide) dL_454 ?_
  refine sm_iadd C dL_455 ?_
  refine sl_sld C X (hin 1 (by decide) (by decide)) dL_456 ?_
  refine sl_callI (As := [.int (xs (nI i + 1).toNatClampNeg)]) (ny := 2) (fr' := 0) (lo' := 0) C cfX9_fault wl6 kd_0 rfl rfl rfl rfl rfl dL_457 (mX9_fault e1) ?_
  refine sm_aload_n C 1 rfl dL_460 rfl ?_
  refine sm_aload_n C 3 rfl dL_461 rfl ?_
  refine sm_iload_n C 0 rfl dL_462 rfl ?_
  refine sm_iconst C (v := 1) (by decide) dL_463 ?_
  refine sm_iadd C dL_464 ?_
  refine sl_sld C X (hin 1 (by decide) (by decide)) dL_465 ?_
  refine sl_callI (As := [.int (xs (nI i + 1).toNatClampNeg)]) (ny := 2) (fr' := 0) (lo' := 0) C cfX10_fault wl7 kd_79 rfl rfl rfl rfl rfl dL_466 (mX10_fault e2) ?_
  exact sl_icmp_eq C dL_469 (tgt := 2282) rfl (next _ R)
-- augur
theorem lq_k4 {G : Gx} {b L i : Nat} {xs : Nat → Int32} {w : HW} (C : Cx G code "SacredHensLaw" 4 15 560) (X : Lx G b L xs) (hin : ∀ j : Int32, 0 ≤ j → j ≤ 5 → vp_in (nI i + j) L) (H : Rel w) (next : ∀ w1, Rel w1 → Sm G () 2282 (LV G b i) [] w1 (some ())) : Sm G () 474 (LV G b i) [] w (some ()) := by
  obtain ⟨r, w1, w2, e1, e2, R⟩ := ag_augur H (xs (nI i + 1).toNatClampNeg) (xs (nI i + 2).toNatClampNeg)
  obtain ⟨e1, f1⟩ := pu_some e1
  subst f1
  obtain ⟨e2, f2⟩ := pu_some e2
  subst f2
  refine sm_aload_n C 2 rfl dL_474 rfl ?_
  refine sm_aload_n C 3 rfl dL_475 rfl ?_
  refine sm_iload_n C 0 rfl dL_476 rfl ?_
  refine sm_iconst C (v := 1) (by decide) dL_477 ?_
  refine sm_iadd C dL_478 ?_
  refine sl_sld C X (hin 1 (by decide) (by decide)) dL_479 ?_
  refine sm_aload_n C 3 rfl dL_480 rfl ?_
  refine sm_iload_n C 0 rfl dL_481 rfl ?_
  refine sm_iconst C (v := 2) (by decide) dL_482 ?_
  refine sm_iadd C dL_483 ?_
  refine sl_sld C X (hin 2 (by decide) (by decide)) dL_484 ?_
  refine sl_callI (As := [.int (xs (nI i + 1).toNatClampNeg), .int (xs (nI i + 2).toNatClampNeg)]) (ny := 3) (fr' := 1) (lo' := 21) C cfX9_augur wl8 kd_0 rfl rfl rfl rfl rfl dL_485 (mX9_augur e1) ?_
  refine sm_aload_n C 1 rfl dL_488 rfl ?_
  refine sm_aload_n C 3 rfl dL_489 rfl ?_
  refine sm_iload_n C 0 rfl dL_490 rfl ?_
  refine sm_iconst C (v := 1) (by decide) dL_491 ?_
  refine sm_iadd C dL_492 ?_
  refine sl_sld C X (hin 1 (by decide) (by decide)) dL_493 ?_
  refine sm_aload_n C 3 rfl dL_494 rfl ?_
  refine sm_iload_n C 0 rfl dL_495 rfl ?_
  refine sm_iconst C (v := 2) (by decide) dL_496 ?_
  refine sm_iadd C dL_497 ?_
  refine sl_sld C X (hin 2 (by decide) (by decide)) dL_498 ?_
  refine sl_callI (As := [.int (xs (nI i + 1).toNatClampNeg), .int (xs (nI i + 2).toNatClampNeg)]) (ny := 3) (fr' := 2) (lo' := 46) C cfX10_augur wl9 kd_79 rfl rfl rfl rfl rfl dL_499 (mX10_augur e2) ?_
  exact sl_icmp_eq C dL_502 (tgt := 2282) rfl (next _ R)
-- bill
theorem lq_k5 {G : Gx} {b L i : Nat} {xs : Nat → Int32} {w : HW} (C : Cx G code "SacredHensLaw" 4 15 560) (X : Lx G b L xs) (hin : ∀ j : Int32, 0 ≤ j → j ≤ 5 → vp_in (nI i + j) L) (H : Rel w) (next : ∀ w1, Rel w1 → Sm G () 2282 (LV G b i) [] w1 (some ())) : Sm G () 507 (LV G b i) [] w (some ()) := by
  obtain ⟨r, w1, w2, e1, e2, R⟩ := ag_bill H (xs (nI i + 1).toNatClampNeg) (xs (nI i + 2).toNatClampNeg)
  obtain ⟨e1, f1⟩ := pu_some e1
  subst f1
  obtain ⟨e2, f2⟩ := pu_some e2
  subst f2
  refine sm_aload_n C 2 rfl dL_507 rfl ?_
  refine sm_aload_n C 3 rfl dL_508 rfl ?_
  refine sm_iload_n C 0 rfl dL_509 rfl ?_
  refine sm_iconst C (v := 1) (by decide) dL_510 ?_
  refine sm_iadd C dL_511 ?_
  refine sl_sld C X (hin 1 (by decide) (by decide)) dL_512 ?_
  refine sm_aload_n C 3 rfl dL_513 rfl ?_
  refine sm_iload_n C 0 rfl dL_514 rfl ?_
  refine sm_iconst C (v := 2) (by decide) dL_515 ?_
  refine sm_iadd C dL_516 ?_
  refine sl_sld C X (hin 2 (by decide) (by decide)) dL_517 ?_
  refine sl_callI (As := [.int (xs (nI i + 1).toNatClampNeg), .int (xs (nI i + 2).toNatClampNeg)]) (ny := 3) (fr' := 1) (lo' := 21) C cfX9_bill wl10 kd_0 rfl rfl rfl rfl rfl dL_518 (mX9_bill e1) ?_
  refine sm_aload_n C 1 rfl dL_521 rfl ?_
  refine sm_aload_n C 3 rfl dL_522 rfl ?_
  refine sm_iload_n C 0 rfl dL_523 rfl ?_
  refine sm_iconst C (v := 1) (by decide) dL_524 ?_
  refine sm_iadd C dL_525 ?_
  refine sl_sld C X (hin 1 (by decide) (by decide)) dL_526 ?_
  refine sm_aload_n C 3 rfl dL_527 rfl ?_
  refine sm_iload_n C 0 rfl dL_528 rfl ?_
  refine sm_iconst C (v := 2) (by decide) dL_529 ?_
  refine sm_iadd C dL_530 ?_
  refine sl_sld C X (hin 2 (by decide) (by decide)) dL_531 ?_
  refine sl_callI (As := [.int (xs (nI i + 1).toNatClampNeg), .int (xs (nI i + 2).toNatClampNeg)]) (ny := 3) (fr' := 2) (lo' := 46) C cfX10_bill wl11 kd_79 rfl rfl rfl rfl rfl dL_532 (mX10_bill e2) ?_
  exact sl_icmp_eq C dL_535 (tgt := 2282) rfl (next _ R)
-- marks
theorem lq_k6 {G : Gx} {b L i : Nat} {xs : Nat → Int32} {w : HW} (C : Cx G code "SacredHensLaw" 4 15 560) (X : Lx G b L xs) (hin : ∀ j : Int32, 0 ≤ j → j ≤ 5 → vp_in (nI i + j) L) (H : Rel w) (next : ∀ w1, Rel w1 → Sm G () 2282 (LV G b i) [] w1 (some ())) : Sm G () 540 (LV G b i) [] w (some ()) := by
  obtain ⟨r, w1, w2, e1, e2, R⟩ := ag_marks H 
  obtain ⟨e1, f1⟩ := pu_some e1
  subst f1
  obtain ⟨e2, f2⟩ := pu_some e2
  subst f2
  refine sm_aload_n C 2 rfl dL_540 rfl ?_
  refine sl_callI (As := []) (ny := 1) (fr' := 1) (lo' := 20) C cfX9_marks wl12 kd_0 rfl rfl rfl rfl rfl dL_541 (mX9_marks e1) ?_
  refine sm_aload_n C 1 rfl dL_544 rfl ?_
  refine sl_callI (As := []) (ny := 1) (fr' := 1) (lo' := 20) C cfX10_marks wl13 kd_79 rfl rfl rfl rfl rfl dL_545 (mX10_marks e2) ?_
  exact sl_icmp_eq C dL_548 (tgt := 2282) rfl (next _ R)
-- sky
theorem lq_k7 {G : Gx} {b L i : Nat} {xs : Nat → Int32} {w : HW} (C : Cx G code "SacredHensLaw" 4 15 560) (X : Lx G b L xs) (hin : ∀ j : Int32, 0 ≤ j → j ≤ 5 → vp_in (nI i + j) L) (H : Rel w) (next : ∀ w1, Rel w1 → Sm G () 2282 (LV G b i) [] w1 (some ())) : Sm G () 553 (LV G b i) [] w (some ()) := by
  obtain ⟨r, w1, w2, e1, e2, R⟩ := ag_sky H (xs (nI i + 1).toNatClampNeg)
  obtain ⟨e1, f1⟩ := pu_some e1
  subst f1
  obtain ⟨e2, f2⟩ := pu_some e2
  subst f2
  refine sm_aload_n C 2 rfl dL_553 rfl ?_
  refine sm_aload_n C 3 rfl dL_554 rfl ?_
  refine sm_iload_n C 0 rfl dL_555 rfl ?_
  refine sm_iconst C (v := 1) (by decide) dL_556 ?_
  refine sm_iadd C dL_557 ?_
  refine sl_sld C X (hin 1 (by decide) (by decide)) dL_558 ?_
  refine sl_callI (As := [.int (xs (nI i + 1).toNatClampNeg)]) (ny := 2) (fr' := 2) (lo' := 44) C cfX9_sky wl14 kd_0 rfl rfl rfl rfl rfl dL_559 (mX9_sky e1) ?_
  refine sm_aload_n C 1 rfl dL_562 rfl ?_
  refine sm_aload_n C 3 rfl dL_563 rfl ?_
  refine sm_iload_n C 0 rfl dL_564 rfl ?_
  refine sm_iconst C (v := 1) (by decide) dL_565 ?_
  refine sm_iadd C dL_566 ?_
  refine sl_sld C X (hin 1 (by decide) (by decide)) dL_567 ?_
  refine sl_callI (As := [.int (xs (nI i + 1).toNatClampNeg)]) (ny := 2) (fr' := 4) (lo' := 90) C cfX10_sky wl15 kd_79 rfl rfl rfl rfl rfl dL_568 (mX10_sky e2) ?_
  exact sl_icmp_eq C dL_571 (tgt := 2282) rfl (next _ R)
-- watch
theorem lq_k8 {G : Gx} {b L i : Nat} {xs : Nat → Int32} {w : HW} (C : Cx G code "SacredHensLaw" 4 15 560) (X : Lx G b L xs) (hin : ∀ j : Int32, 0 ≤ j → j ≤ 5 → vp_in (nI i + j) L) (H : Rel w) (next : ∀ w1, Rel w1 → Sm G () 2282 (LV G b i) [] w1 (some ())) : Sm G () 576 (LV G b i) [] w (some ()) := by
  obtain ⟨r, w1, w2, e1, e2, R⟩ := ag_watch H (xs (nI i + 1).toNatClampNeg)
  obtain ⟨e1, f1⟩ := pu_some e1
  subst f1
  obtain ⟨e2, f2⟩ := pu_some e2
  subst f2
  refine sm_aload_n C 2 rfl dL_576 rfl ?_
  refine sm_aload_n C 3 rfl dL_577 rfl ?_
  refine sm_iload_n C 0 rfl dL_578 rfl ?_
  refine sm_iconst C (v := 1) (by decide) dL_579 ?_
  refine sm_iadd C dL_580 ?_
  refine sl_sld C X (hin 1 (by decide) (by decide)) dL_581 ?_
  refine sl_callI (As := [.int (xs (nI i + 1).toNatClampNeg)]) (ny := 2) (fr' := 2) (lo' := 44) C cfX9_watch wl16 kd_0 rfl rfl rfl rfl rfl dL_582 (mX9_watch e1) ?_
  refine sm_aload_n C 1 rfl dL_585 rfl ?_
  refine sm_aload_n C 3 rfl dL_586 rfl ?_
  refine sm_iload_n C 0 rfl dL_587 rfl ?_
  refine sm_iconst C (v := 1) (by decide) dL_588 ?_
  refine sm_iadd C dL_589 ?_
  refine sl_sld C X (hin 1 (by decide) (by decide)) dL_590 ?_
  refine sl_callI (As := [.int (xs (nI i + 1).toNatClampNeg)]) (ny := 4) (fr' := 2) (lo' := 47) C cfX10_watch wl17 kd_79 rfl rfl rfl rfl rfl dL_591 (mX10_watch e2) ?_
  exact sl_icmp_eq C dL_594 (tgt := 2282) rfl (next _ R)
-- hunger
theorem lq_k9 {G : Gx} {b L i : Nat} {xs : Nat → Int32} {w : HW} (C : Cx G code "SacredHensLaw" 4 15 560) (X : Lx G b L xs) (hin : ∀ j : Int32, 0 ≤ j → j ≤ 5 → vp_in (nI i + j) L) (H : Rel w) (next : ∀ w1, Rel w1 → Sm G () 2282 (LV G b i) [] w1 (some ())) : Sm G () 599 (LV G b i) [] w (some ()) := by
  obtain ⟨r, w1, w2, e1, e2, R⟩ := ag_hunger H (xs (nI i + 1).toNatClampNeg)
  refine sm_aload_n C 2 rfl dL_599 rfl ?_
  refine sm_aload_n C 3 rfl dL_600 rfl ?_
  refine sm_iload_n C 0 rfl dL_601 rfl ?_
  refine sm_iconst C (v := 1) (by decide) dL_602 ?_
  refine sm_iadd C dL_603 ?_
  refine sl_sld C X (hin 1 (by decide) (by decide)) dL_604 ?_
  refine sl_callI (As := [.int (xs (nI i + 1).toNatClampNeg)]) (ny := 2) (fr' := 6) (lo' := 135) C cfX9_hunger wl18 kd_0 rfl rfl rfl rfl rfl dL_605 (mX9_hunger e1) ?_
  refine sm_aload_n C 1 rfl dL_608 rfl ?_
  refine sm_aload_n C 3 rfl dL_609 rfl ?_
  refine sm_iload_n C 0 rfl dL_610 rfl ?_
  refine sm_iconst C (v := 1) (by decide) dL_611 ?_
  refine sm_iadd C dL_612 ?_
  refine sl_sld C X (hin 1 (by decide) (by decide)) dL_613 ?_
  refine sl_callI (As := [.int (xs (nI i + 1).toNatClampNeg)]) (ny := 2) (fr' := 8) (lo' := 178) C cfX10_hunger wl19 kd_79 rfl rfl rfl rfl rfl dL_614 (mX10_hunger e2) ?_
  exact sl_icmp_eq C dL_617 (tgt := 2282) rfl (next _ R)
-- eat
theorem lq_k10 {G : Gx} {b L i : Nat} {xs : Nat → Int32} {w : HW} (C : Cx G code "SacredHensLaw" 4 15 560) (X : Lx G b L xs) (hin : ∀ j : Int32, 0 ≤ j → j ≤ 5 → vp_in (nI i + j) L) (H : Rel w) (next : ∀ w1, Rel w1 → Sm G () 2282 (LV G b i) [] w1 (some ())) : Sm G () 622 (LV G b i) [] w (some ()) := by
  obtain ⟨r, w1, w2, e1, e2, R⟩ := ag_eat H 
  refine sm_aload_n C 2 rfl dL_622 rfl ?_
  refine sl_callI (As := []) (ny := 3) (fr' := 6) (lo' := 135) C cfX9_eat wl20 kd_0 rfl rfl rfl rfl rfl dL_623 (mX9_eat e1) ?_
  refine sm_aload_n C 1 rfl dL_626 rfl ?_
  refine sl_callI (As := []) (ny := 3) (fr' := 7) (lo' := 157) C cfX10_eat wl21 kd_79 rfl rfl rfl rfl rfl dL_627 (mX10_eat e2) ?_
  exact sl_icmp_eq C dL_630 (tgt := 2282) rfl (next _ R)
-- open
theorem lq_k11 {G : Gx} {b L i : Nat} {xs : Nat → Int32} {w : HW} (C : Cx G code "SacredHensLaw" 4 15 560) (X : Lx G b L xs) (hin : ∀ j : Int32, 0 ≤ j → j ≤ 5 → vp_in (nI i + j) L) (H : Rel w) (next : ∀ w1, Rel w1 → Sm G () 2282 (LV G b i) [] w1 (some ())) : Sm G () 635 (LV G b i) [] w (some ()) := by
  obtain ⟨r, w1, w2, e1, e2, R⟩ := ag_open H (xs (nI i + 1).toNatClampNeg)
  refine sm_aload_n C 2 rfl dL_635 rfl ?_
  refine sm_aload_n C 3 rfl dL_636 rfl ?_
  refine sm_iload_n C 0 rfl dL_637 rfl ?_
  refine sm_iconst C (v := 1) (by decide) dL_638 ?_
  refine sm_iadd C dL_639 ?_
  refine sl_sld C X (hin 1 (by decide) (by decide)) dL_640 ?_
  refine sl_callI (As := [.int (xs (nI i + 1).toNatClampNeg)]) (ny := 5) (fr' := 6) (lo' := 135) C cfX9_open wl22 kd_0 rfl rfl rfl rfl rfl dL_641 (mX9_open e1) ?_
  refine sm_aload_n C 1 rfl dL_644 rfl ?_
  refine sm_aload_n C 3 rfl dL_645 rfl ?_
  refine sm_iload_n C 0 rfl dL_646 rfl ?_
  refine sm_iconst C (v := 1) (by decide) dL_647 ?_
  refine sm_iadd C dL_648 ?_
  refine sl_sld C X (hin 1 (by decide) (by decide)) dL_649 ?_
  refine sl_callI (As := [.int (xs (nI i + 1).toNatClampNeg)]) (ny := 6) (fr' := 7) (lo' := 157) C cfX10_open wl23 kd_79 rfl rfl rfl rfl rfl dL_650 (mX10_open e2) ?_
  exact sl_icmp_eq C dL_653 (tgt := 2282) rfl (next _ R)
-- best
theorem lq_k12 {G : Gx} {b L i : Nat} {xs : Nat → Int32} {w : HW} (C : Cx G code "SacredHensLaw" 4 15 560) (X : Lx G b L xs) (hin : ∀ j : Int32, 0 ≤ j → j ≤ 5 → vp_in (nI i + j) L) (H : Rel w) (next : ∀ w1, Rel w1 → Sm G () 2282 (LV G b i) [] w1 (some ())) : Sm G () 658 (LV G b i) [] w (some ()) := by
  obtain ⟨r, w1, w2, e1, e2, R⟩ := ag_best H (xs (nI i + 1).toNatClampNeg)
  refine sm_aload_n C 2 rfl dL_658 rfl ?_
  refine sm_aload_n C 3 rfl dL_659 rfl ?_
  refine sm_iload_n C 0 rfl dL_660 rfl ?_
  refine sm_iconst C (v := 1) (by decide) dL_661 ?_
  refine sm_iadd C dL_662 ?_
  refine sl_sld C X (hin 1 (by decide) (by decide)) dL_663 ?_
  refine sl_callI (As := [.int (xs (nI i + 1).toNatClampNeg)]) (ny := 5) (fr' := 6) (lo' := 135) C cfX9_best wl24 kd_0 rfl rfl rfl rfl rfl dL_664 (mX9_best e1) ?_
  refine sm_aload_n C 1 rfl dL_667 rfl ?_
  refine sm_aload_n C 3 rfl dL_668 rfl ?_
  refine sm_iload_n C 0 rfl dL_669 rfl ?_
  refine sm_iconst C (v := 1) (by decide) dL_670 ?_
  refine sm_iadd C dL_671 ?_
  refine sl_sld C X (hin 1 (by decide) (by decide)) dL_672 ?_
  refine sl_callI (As := [.int (xs (nI i + 1).toNatClampNeg)]) (ny := 5) (fr' := 8) (lo' := 178) C cfX10_best wl25 kd_79 rfl rfl rfl rfl rfl dL_673 (mX10_best e2) ?_
  exact sl_icmp_eq C dL_676 (tgt := 2282) rfl (next _ R)
-- asked
theorem lq_k13 {G : Gx} {b L i : Nat} {xs : Nat → Int32} {w : HW} (C : Cx G code "SacredHensLaw" 4 15 560) (X : Lx G b L xs) (hin : ∀ j : Int32, 0 ≤ j → j ≤ 5 → vp_in (nI i + j) L) (H : Rel w) (next : ∀ w1, Rel w1 → Sm G () 2282 (LV G b i) [] w1 (some ())) : Sm G () 681 (LV G b i) [] w (some ()) := by
  obtain ⟨r, w1, w2, e1, e2, R⟩ := ag_asked H 
  obtain ⟨e1, f1⟩ := pu_some e1
  subst f1
  refine sm_aload_n C 2 rfl dL_681 rfl ?_
  refine sl_callI (As := []) (ny := 1) (fr' := 1) (lo' := 22) C cfX9_asked wl26 kd_0 rfl rfl rfl rfl rfl dL_682 (mX9_asked e1) ?_
  refine sm_aload_n C 1 rfl dL_685 rfl ?_
  refine sl_callI (As := []) (ny := 1) (fr' := 7) (lo' := 157) C cfX10_asked wl27 kd_79 rfl rfl rfl rfl rfl dL_686 (mX10_asked e2) ?_
  exact sl_icmp_eq C dL_689 (tgt := 2282) rfl (next _ R)
-- fattened
theorem lq_k14 {G : Gx} {b L i : Nat} {xs : Nat → Int32} {w : HW} (C : Cx G code "SacredHensLaw" 4 15 560) (X : Lx G b L xs) (hin : ∀ j : Int32, 0 ≤ j → j ≤ 5 → vp_in (nI i + j) L) (H : Rel w) (next : ∀ w1, Rel w1 → Sm G () 2282 (LV G b i) [] w1 (some ())) : Sm G () 694 (LV G b i) [] w (some ()) := by
  obtain ⟨r, w1, w2, e1, e2, R⟩ := ag_fattened H 
  obtain ⟨e1, f1⟩ := pu_some e1
  subst f1
  refine sm_aload_n C 2 rfl dL_694 rfl ?_
  refine sl_callI (As := []) (ny := 1) (fr' := 1) (lo' := 22) C cfX9_fattened wl28 kd_0 rfl rfl rfl rfl rfl dL_695 (mX9_fattened e1) ?_
  refine sm_aload_n C 1 rfl dL_698 rfl ?_
  refine sl_callI (As := []) (ny := 1) (fr' := 7) (lo' := 157) C cfX10_fattened wl29 kd_79 rfl rfl rfl rfl rfl dL_699 (mX10_fattened e2) ?_
  exact sl_icmp_eq C dL_702 (tgt := 2282) rfl (next _ R)
-- fast
theorem lq_k15 {G : Gx} {b L i : Nat} {xs : Nat → Int32} {w : HW} (C : Cx G code "SacredHensLaw" 4 15 560) (X : Lx G b L xs) (hin : ∀ j : Int32, 0 ≤ j → j ≤ 5 → vp_in (nI i + j) L) (H : Rel w) (next : ∀ w1, Rel w1 → Sm G () 2282 (LV G b i) [] w1 (some ())) : Sm G () 707 (LV G b i) [] w (some ()) := by
  obtain ⟨r, w1, w2, e1, e2, R⟩ := ag_fast H 
  obtain ⟨e1, f1⟩ := pu_some e1
  subst f1
  refine sm_aload_n C 2 rfl dL_707 rfl ?_
  refine sl_callI (As := []) (ny := 1) (fr' := 2) (lo' := 44) C cfX9_fast wl30 kd_0 rfl rfl rfl rfl rfl dL_708 (mX9_fast e1) ?_
  refine sm_aload_n C 1 rfl dL_711 rfl ?_
  refine sl_callI (As := []) (ny := 1) (fr' := 7) (lo' := 157) C cfX10_fast wl31 kd_79 rfl rfl rfl rfl rfl dL_712 (mX10_fast e2) ?_
  exact sl_icmp_eq C dL_715 (tgt := 2282) rfl (next _ R)
-- first
theorem lq_k16 {G : Gx} {b L i : Nat} {xs : Nat → Int32} {w : HW} (C : Cx G code "SacredHensLaw" 4 15 560) (X : Lx G b L xs) (hin : ∀ j : Int32, 0 ≤ j → j ≤ 5 → vp_in (nI i + j) L) (H : Rel w) (next : ∀ w1, Rel w1 → Sm G () 2282 (LV G b i) [] w1 (some ())) : Sm G () 720 (LV G b i) [] w (some ()) := by
  obtain ⟨r, w1, w2, e1, e2, R⟩ := ag_first H (xs (nI i + 1).toNatClampNeg)
  refine sm_aload_n C 2 rfl dL_720 rfl ?_
  refine sm_aload_n C 3 rfl dL_721 rfl ?_
  refine sm_iload_n C 0 rfl dL_722 rfl ?_
  refine sm_iconst C (v := 1) (by decide) dL_723 ?_
  refine sm_iadd C dL_724 ?_
  refine sl_sld C X (hin 1 (by decide) (by decide)) dL_725 ?_
  refine sl_callI (As := [.int (xs (nI i + 1).toNatClampNeg)]) (ny := 3) (fr' := 6) (lo' := 135) C cfX9_first wl32 kd_0 rfl rfl rfl rfl rfl dL_726 (mX9_first e1) ?_
  refine sm_aload_n C 1 rfl dL_729 rfl ?_
  refine sm_aload_n C 3 rfl dL_730 rfl ?_
  refine sm_iload_n C 0 rfl dL_731 rfl ?_
  refine sm_iconst C (v := 1) (by decide) dL_732 ?_
  refine sm_iadd C dL_733 ?_
  refine sl_sld C X (hin 1 (by decide) (by decide)) dL_734 ?_
  refine sl_callI (As := [.int (xs (nI i + 1).toNatClampNeg)]) (ny := 3) (fr' := 8) (lo' := 178) C cfX10_first wl33 kd_79 rfl rfl rfl rfl rfl dL_735 (mX10_first e2) ?_
  exact sl_icmp_eq C dL_738 (tgt := 2282) rfl (next _ R)
-- passed
theorem lq_k17 {G : Gx} {b L i : Nat} {xs : Nat → Int32} {w : HW} (C : Cx G code "SacredHensLaw" 4 15 560) (X : Lx G b L xs) (hin : ∀ j : Int32, 0 ≤ j → j ≤ 5 → vp_in (nI i + j) L) (H : Rel w) (next : ∀ w1, Rel w1 → Sm G () 2282 (LV G b i) [] w1 (some ())) : Sm G () 743 (LV G b i) [] w (some ()) := by
  obtain ⟨r, w1, w2, e1, e2, R⟩ := ag_passed H (xs (nI i + 1).toNatClampNeg)
  refine sm_aload_n C 2 rfl dL_743 rfl ?_
  refine sm_aload_n C 3 rfl dL_744 rfl ?_
  refine sm_iload_n C 0 rfl dL_745 rfl ?_
  refine sm_iconst C (v := 1) (by decide) dL_746 ?_
  refine sm_iadd C dL_747 ?_
  refine sl_sld C X (hin 1 (by decide) (by decide)) dL_748 ?_
  refine sl_callI (As := [.int (xs (nI i + 1).toNatClampNeg)]) (ny := 2) (fr' := 6) (lo' := 135) C cfX9_passed wl34 kd_0 rfl rfl rfl rfl rfl dL_749 (mX9_passed e1) ?_
  refine sm_aload_n C 1 rfl dL_752 rfl ?_
  refine sm_aload_n C 3 rfl dL_753 rfl ?_
  refine sm_iload_n C 0 rfl dL_754 rfl ?_
  refine sm_iconst C (v := 1) (by decide) dL_755 ?_
  refine sm_iadd C dL_756 ?_
  refine sl_sld C X (hin 1 (by decide) (by decide)) dL_757 ?_
  refine sl_callI (As := [.int (xs (nI i + 1).toNatClampNeg)]) (ny := 2) (fr' := 8) (lo' := 178) C cfX10_passed wl35 kd_79 rfl rfl rfl rfl rfl dL_758 (mX10_passed e2) ?_
  exact sl_icmp_eq C dL_761 (tgt := 2282) rfl (next _ R)
-- when
theorem lq_k18 {G : Gx} {b L i : Nat} {xs : Nat → Int32} {w : HW} (C : Cx G code "SacredHensLaw" 4 15 560) (X : Lx G b L xs) (hin : ∀ j : Int32, 0 ≤ j → j ≤ 5 → vp_in (nI i + j) L) (H : Rel w) (next : ∀ w1, Rel w1 → Sm G () 2282 (LV G b i) [] w1 (some ())) : Sm G () 766 (LV G b i) [] w (some ()) := by
  obtain ⟨r, w1, w2, e1, e2, R⟩ := ag_when H (xs (nI i + 1).toNatClampNeg)
  refine sm_aload_n C 2 rfl dL_766 rfl ?_
  refine sm_aload_n C 3 rfl dL_767 rfl ?_
  refine sm_iload_n C 0 rfl dL_768 rfl ?_
  refine sm_iconst C (v := 1) (by decide) dL_769 ?_
  refine sm_iadd C dL_770 ?_
  refine sl_sld C X (hin 1 (by decide) (by decide)) dL_771 ?_
  refine sl_callI (As := [.int (xs (nI i + 1).toNatClampNeg)]) (ny := 2) (fr' := 6) (lo' := 135) C cfX9_when wl36 kd_0 rfl rfl rfl rfl rfl dL_772 (mX9_when e1) ?_
  refine sm_aload_n C 1 rfl dL_775 rfl ?_
  refine sm_aload_n C 3 rfl dL_776 rfl ?_
  refine sm_iload_n C 0 rfl dL_777 rfl ?_
  refine sm_iconst C (v := 1) (by decide) dL_778 ?_
  refine sm_iadd C dL_779 ?_
  refine sl_sld C X (hin 1 (by decide) (by decide)) dL_780 ?_
  refine sl_callI (As := [.int (xs (nI i + 1).toNatClampNeg)]) (ny := 2) (fr' := 8) (lo' := 178) C cfX10_when wl37 kd_79 rfl rfl rfl rfl rfl dL_781 (mX10_when e2) ?_
  exact sl_icmp_eq C dL_784 (tgt := 2282) rfl (next _ R)
-- why
theorem lq_k19 {G : Gx} {b L i : Nat} {xs : Nat → Int32} {w : HW} (C : Cx G code "SacredHensLaw" 4 15 560) (X : Lx G b L xs) (hin : ∀ j : Int32, 0 ≤ j → j ≤ 5 → vp_in (nI i + j) L) (H : Rel w) (next : ∀ w1, Rel w1 → Sm G () 2282 (LV G b i) [] w1 (some ())) : Sm G () 789 (LV G b i) [] w (some ()) := by
  obtain ⟨r, w1, w2, e1, e2, R⟩ := ag_why H (xs (nI i + 1).toNatClampNeg)
  refine sm_aload_n C 2 rfl dL_789 rfl ?_
  refine sm_aload_n C 3 rfl dL_790 rfl ?_
  refine sm_iload_n C 0 rfl dL_791 rfl ?_
  refine sm_iconst C (v := 1) (by decide) dL_792 ?_
  refine sm_iadd C dL_793 ?_
  refine sl_sld C X (hin 1 (by decide) (by decide)) dL_794 ?_
  refine sl_callI (As := [.int (xs (nI i + 1).toNatClampNeg)]) (ny := 2) (fr' := 6) (lo' := 135) C cfX9_why wl38 kd_0 rfl rfl rfl rfl rfl dL_795 (mX9_why e1) ?_
  refine sm_aload_n C 1 rfl dL_798 rfl ?_
  refine sm_aload_n C 3 rfl dL_799 rfl ?_
  refine sm_iload_n C 0 rfl dL_800 rfl ?_
  refine sm_iconst C (v := 1) (by decide) dL_801 ?_
  refine sm_iadd C dL_802 ?_
  refine sl_sld C X (hin 1 (by decide) (by decide)) dL_803 ?_
  refine sl_callI (As := [.int (xs (nI i + 1).toNatClampNeg)]) (ny := 2) (fr' := 8) (lo' := 178) C cfX10_why wl39 kd_79 rfl rfl rfl rfl rfl dL_804 (mX10_why e2) ?_
  exact sl_icmp_eq C dL_807 (tgt := 2282) rfl (next _ R)
-- worth
theorem lq_k20 {G : Gx} {b L i : Nat} {xs : Nat → Int32} {w : HW} (C : Cx G code "SacredHensLaw" 4 15 560) (X : Lx G b L xs) (hin : ∀ j : Int32, 0 ≤ j → j ≤ 5 → vp_in (nI i + j) L) (H : Rel w) (next : ∀ w1, Rel w1 → Sm G () 2282 (LV G b i) [] w1 (some ())) : Sm G () 812 (LV G b i) [] w (some ()) := by
  obtain ⟨r, w1, w2, e1, e2, R⟩ := ag_worth H (xs (nI i + 1).toNatClampNeg)
  refine sm_aload_n C 2 rfl dL_812 rfl ?_
  refine sm_aload_n C 3 rfl dL_813 rfl ?_
  refine sm_iload_n C 0 rfl dL_814 rfl ?_
  refine sm_iconst C (v := 1) (by decide) dL_815 ?_
  refine sm_iadd C dL_816 ?_
  refine sl_sld C X (hin 1 (by decide) (by decide)) dL_817 ?_
  refine sl_callI (As := [.int (xs (nI i + 1).toNatClampNeg)]) (ny := 2) (fr' := 6) (lo' := 135) C cfX9_worth wl40 kd_0 rfl rfl rfl rfl rfl dL_818 (mX9_worth e1) ?_
  refine sm_aload_n C 1 rfl dL_821 rfl ?_
  refine sm_aload_n C 3 rfl dL_822 rfl ?_
  refine sm_iload_n C 0 rfl dL_823 rfl ?_
  refine sm_iconst C (v := 1) (by decide) dL_824 ?_
  refine sm_iadd C dL_825 ?_
  refine sl_sld C X (hin 1 (by decide) (by decide)) dL_826 ?_
  refine sl_callI (As := [.int (xs (nI i + 1).toNatClampNeg)]) (ny := 4) (fr' := 7) (lo' := 157) C cfX10_worth wl41 kd_79 rfl rfl rfl rfl rfl dL_827 (mX10_worth e2) ?_
  exact sl_icmp_eq C dL_830 (tgt := 2282) rfl (next _ R)
-- plan
theorem lq_k21 {G : Gx} {b L i : Nat} {xs : Nat → Int32} {w : HW} (C : Cx G code "SacredHensLaw" 4 15 560) (X : Lx G b L xs) (hin : ∀ j : Int32, 0 ≤ j → j ≤ 5 → vp_in (nI i + j) L) (H : Rel w) (next : ∀ w1, Rel w1 → Sm G () 2282 (LV G b i) [] w1 (some ())) : Sm G () 835 (LV G b i) [] w (some ()) := by
  obtain ⟨r, w1, w2, e1, e2, R⟩ := ag_plan H (xs (nI i + 1).toNatClampNeg)
  refine sm_aload_n C 2 rfl dL_835 rfl ?_
  refine sm_aload_n C 3 rfl dL_836 rfl ?_
  refine sm_iload_n C 0 rfl dL_837 rfl ?_
  refine sm_iconst C (v := 1) (by decide) dL_838 ?_
  refine sm_iadd C dL_839 ?_
  refine sl_sld C X (hin 1 (by decide) (by decide)) dL_840 ?_
  refine sl_callI (As := [.int (xs (nI i + 1).toNatClampNeg)]) (ny := 2) (fr' := 6) (lo' := 147) C cfX9_plan wl42 kd_0 rfl rfl rfl rfl rfl dL_841 (mX9_plan e1) ?_
  refine sm_aload_n C 1 rfl dL_844 rfl ?_
  refine sm_aload_n C 3 rfl dL_845 rfl ?_
  refine sm_iload_n C 0 rfl dL_846 rfl ?_
  refine sm_iconst C (v := 1) (by decide) dL_847 ?_
  refine sm_iadd C dL_848 ?_
  refine sl_sld C X (hin 1 (by decide) (by decide)) dL_849 ?_
  refine sl_callI (As := [.int (xs (nI i + 1).toNatClampNeg)]) (ny := 2) (fr' := 6) (lo' := 137) C cfX10_plan wl43 kd_79 rfl rfl rfl rfl rfl dL_850 (mX10_plan e2) ?_
  exact sl_icmp_eq C dL_853 (tgt := 2282) rfl (next _ R)
-- planned
theorem lq_k22 {G : Gx} {b L i : Nat} {xs : Nat → Int32} {w : HW} (C : Cx G code "SacredHensLaw" 4 15 560) (X : Lx G b L xs) (hin : ∀ j : Int32, 0 ≤ j → j ≤ 5 → vp_in (nI i + j) L) (H : Rel w) (next : ∀ w1, Rel w1 → Sm G () 2282 (LV G b i) [] w1 (some ())) : Sm G () 858 (LV G b i) [] w (some ()) := by
  obtain ⟨r, w1, w2, e1, e2, R⟩ := ag_planned H (xs (nI i + 1).toNatClampNeg) (xs (nI i + 2).toNatClampNeg)
  refine sm_aload_n C 2 rfl dL_858 rfl ?_
  refine sm_aload_n C 3 rfl dL_859 rfl ?_
  refine sm_iload_n C 0 rfl dL_860 rfl ?_
  refine sm_iconst C (v := 1) (by decide) dL_861 ?_
  refine sm_iadd C dL_862 ?_
  refine sl_sld C X (hin 1 (by decide) (by decide)) dL_863 ?_
  refine sm_aload_n C 3 rfl dL_864 rfl ?_
  refine sm_iload_n C 0 rfl dL_865 rfl ?_
  refine sm_iconst C (v := 2) (by decide) dL_866 ?_
  refine sm_iadd C dL_867 ?_
  refine sl_sld C X (hin 2 (by decide) (by decide)) dL_868 ?_
  refine sl_callI (As := [.int (xs (nI i + 1).toNatClampNeg), .int (xs (nI i + 2).toNatClampNeg)]) (ny := 3) (fr' := 6) (lo' := 147) C cfX9_planned wl44 kd_0 rfl rfl rfl rfl rfl dL_869 (mX9_planned e1) ?_
  refine sm_aload_n C 1 rfl dL_872 rfl ?_
  refine sm_aload_n C 3 rfl dL_873 rfl ?_
  refine sm_iload_n C 0 rfl dL_874 rfl ?_
  refine sm_iconst C (v := 1) (by decide) dL_875 ?_
  refine sm_iadd C dL_876 ?_
  refine sl_sld C X (hin 1 (by decide) (by decide)) dL_877 ?_
  refine sm_aload_n C 3 rfl dL_878 rfl ?_
  refine sm_iload_n C 0 rfl dL_879 rfl ?_
  refine sm_iconst C (v := 2) (by decide) dL_880 ?_
  refine sm_iadd C dL_881 ?_
  refine sl_sld C X (hin 2 (by decide) (by decide)) dL_882 ?_
  refine sl_callI (As := [.int (xs (nI i + 1).toNatClampNeg), .int (xs (nI i + 2).toNatClampNeg)]) (ny := 8) (fr' := 6) (lo' := 137) C cfX10_planned wl45 kd_79 rfl rfl rfl rfl rfl dL_883 (mX10_planned e2) ?_
  exact sl_icmp_eq C dL_886 (tgt := 2282) rfl (next _ R)
-- ways
theorem lq_k23 {G : Gx} {b L i : Nat} {xs : Nat → Int32} {w : HW} (C : Cx G code "SacredHensLaw" 4 15 560) (X : Lx G b L xs) (hin : ∀ j : Int32, 0 ≤ j → j ≤ 5 → vp_in (nI i + j) L) (H : Rel w) (next : ∀ w1, Rel w1 → Sm G () 2282 (LV G b i) [] w1 (some ())) : Sm G () 891 (LV G b i) [] w (some ()) := by
  obtain ⟨r, w1, w2, e1, e2, R⟩ := ag_ways H (xs (nI i + 1).toNatClampNeg)
  refine sm_aload_n C 2 rfl dL_891 rfl ?_
  refine sm_aload_n C 3 rfl dL_892 rfl ?_
  refine sm_iload_n C 0 rfl dL_893 rfl ?_
  refine sm_iconst C (v := 1) (by decide) dL_894 ?_
  refine sm_iadd C dL_895 ?_
  refine sl_sld C X (hin 1 (by decide) (by decide)) dL_896 ?_
  refine sl_callI (As := [.int (xs (nI i + 1).toNatClampNeg)]) (ny := 2) (fr' := 6) (lo' := 147) C cfX9_ways wl46 kd_0 rfl rfl rfl rfl rfl dL_897 (mX9_ways e1) ?_
  refine sm_aload_n C 1 rfl dL_900 rfl ?_
  refine sm_aload_n C 3 rfl dL_901 rfl ?_
  refine sm_iload_n C 0 rfl dL_902 rfl ?_
  refine sm_iconst C (v := 1) (by decide) dL_903 ?_
  refine sm_iadd C dL_904 ?_
  refine sl_sld C X (hin 1 (by decide) (by decide)) dL_905 ?_
  refine sl_callI (As := [.int (xs (nI i + 1).toNatClampNeg)]) (ny := 2) (fr' := 6) (lo' := 137) C cfX10_ways wl47 kd_79 rfl rfl rfl rfl rfl dL_906 (mX10_ways e2) ?_
  exact sl_icmp_eq C dL_909 (tgt := 2282) rfl (next _ R)
-- many
theorem lq_k24 {G : Gx} {b L i : Nat} {xs : Nat → Int32} {w : HW} (C : Cx G code "SacredHensLaw" 4 15 560) (X : Lx G b L xs) (hin : ∀ j : Int32, 0 ≤ j → j ≤ 5 → vp_in (nI i + j) L) (H : Rel w) (next : ∀ w1, Rel w1 → Sm G () 2282 (LV G b i) [] w1 (some ())) : Sm G () 914 (LV G b i) [] w (some ()) := by
  obtain ⟨r, w1, w2, e1, e2, R⟩ := ag_many H (xs (nI i + 1).toNatClampNeg)
  refine sm_aload_n C 2 rfl dL_914 rfl ?_
  refine sm_aload_n C 3 rfl dL_915 rfl ?_
  refine sm_iload_n C 0 rfl dL_916 rfl ?_
  refine sm_iconst C (v := 1) (by decide) dL_917 ?_
  refine sm_iadd C dL_918 ?_
  refine sl_sld C X (hin 1 (by decide) (by decide)) dL_919 ?_
  refine sl_callI (As := [.int (xs (nI i + 1).toNatClampNeg)]) (ny := 2) (fr' := 4) (lo' := 102) C cfX9_many wl48 kd_0 rfl rfl rfl rfl rfl dL_920 (mX9_many e1) ?_
  refine sm_aload_n C 1 rfl dL_923 rfl ?_
  refine sm_aload_n C 3 rfl dL_924 rfl ?_
  refine sm_iload_n C 0 rfl dL_925 rfl ?_
  refine sm_iconst C (v := 1) (by decide) dL_926 ?_
  refine sm_iadd C dL_927 ?_
  refine sl_sld C X (hin 1 (by decide) (by decide)) dL_928 ?_
  refine sl_callI (As := [.int (xs (nI i + 1).toNatClampNeg)]) (ny := 2) (fr' := 6) (lo' := 137) C cfX10_many wl49 kd_79 rfl rfl rfl rfl rfl dL_929 (mX10_many e2) ?_
  exact sl_icmp_eq C dL_932 (tgt := 2282) rfl (next _ R)
-- soonest
theorem lq_k25 {G : Gx} {b L i : Nat} {xs : Nat → Int32} {w : HW} (C : Cx G code "SacredHensLaw" 4 15 560) (X : Lx G b L xs) (hin : ∀ j : Int32, 0 ≤ j → j ≤ 5 → vp_in (nI i + j) L) (H : Rel w) (next : ∀ w1, Rel w1 → Sm G () 2282 (LV G b i) [] w1 (some ())) : Sm G () 937 (LV G b i) [] w (some ()) := by
  obtain ⟨r, w1, w2, e1, e2, R⟩ := ag_soonest H (xs (nI i + 1).toNatClampNeg)
  obtain ⟨e1, f1⟩ := pu_some e1
  subst f1
  obtain ⟨e2, f2⟩ := pu_some e2
  subst f2
  refine sm_aload_n C 2 rfl dL_937 rfl ?_
  refine sm_aload_n C 3 rfl dL_938 rfl ?_
  refine sm_iload_n C 0 rfl dL_939 rfl ?_
  refine sm_iconst C (v := 1) (by decide) dL_940 ?_
  refine sm_iadd C dL_941 ?_
  refine sl_sld C X (hin 1 (by decide) (by decide)) dL_942 ?_
  refine sl_callI (As := [.int (xs (nI i + 1).toNatClampNeg)]) (ny := 2) (fr' := 4) (lo' := 90) C cfX9_soonest wl50 kd_0 rfl rfl rfl rfl rfl dL_943 (mX9_soonest e1) ?_
  refine sm_aload_n C 1 rfl dL_946 rfl ?_
  refine sm_aload_n C 3 rfl dL_947 rfl ?_
  refine sm_iload_n C 0 rfl dL_948 rfl ?_
  refine sm_iconst C (v := 1) (by decide) dL_949 ?_
  refine sm_iadd C dL_950 ?_
  refine sl_sld C X (hin 1 (by decide) (by decide)) dL_951 ?_
  refine sl_callI (As := [.int (xs (nI i + 1).toNatClampNeg)]) (ny := 2) (fr' := 4) (lo' := 91) C cfX10_soonest wl51 kd_79 rfl rfl rfl rfl rfl dL_952 (mX10_soonest e2) ?_
  exact sl_icmp_eq C dL_955 (tgt := 2282) rfl (next _ R)
-- latest
theorem lq_k26 {G : Gx} {b L i : Nat} {xs : Nat → Int32} {w : HW} (C : Cx G code "SacredHensLaw" 4 15 560) (X : Lx G b L xs) (hin : ∀ j : Int32, 0 ≤ j → j ≤ 5 → vp_in (nI i + j) L) (H : Rel w) (next : ∀ w1, Rel w1 → Sm G () 2282 (LV G b i) [] w1 (some ())) : Sm G () 960 (LV G b i) [] w (some ()) := by
  obtain ⟨r, w1, w2, e1, e2, R⟩ := ag_latest H (xs (nI i + 1).toNatClampNeg)
  obtain ⟨e1, f1⟩ := pu_some e1
  subst f1
  obtain ⟨e2, f2⟩ := pu_some e2
  subst f2
  refine sm_aload_n C 2 rfl dL_960 rfl ?_
  refine sm_aload_n C 3 rfl dL_961 rfl ?_
  refine sm_iload_n C 0 rfl dL_962 rfl ?_
  refine sm_iconst C (v := 1) (by decide) dL_963 ?_
  refine sm_iadd C dL_964 ?_
  refine sl_sld C X (hin 1 (by decide) (by decide)) dL_965 ?_
  refine sl_callI (As := [.int (xs (nI i + 1).toNatClampNeg)]) (ny := 2) (fr' := 5) (lo' := 116) C cfX9_latest wl52 kd_0 rfl rfl rfl rfl rfl dL_966 (mX9_latest e1) ?_
  refine sm_aload_n C 1 rfl dL_969 rfl ?_
  refine sm_aload_n C 3 rfl dL_970 rfl ?_
  refine sm_iload_n C 0 rfl dL_971 rfl ?_
  refine sm_iconst C (v := 1) (by decide) dL_972 ?_
  refine sm_iadd C dL_973 ?_
  refine sl_sld C X (hin 1 (by decide) (by decide)) dL_974 ?_
  refine sl_callI (As := [.int (xs (nI i + 1).toNatClampNeg)]) (ny := 6) (fr' := 4) (lo' := 91) C cfX10_latest wl53 kd_79 rfl rfl rfl rfl rfl dL_975 (mX10_latest e2) ?_
  exact sl_icmp_eq C dL_978 (tgt := 2282) rfl (next _ R)
-- deepest
theorem lq_k27 {G : Gx} {b L i : Nat} {xs : Nat → Int32} {w : HW} (C : Cx G code "SacredHensLaw" 4 15 560) (X : Lx G b L xs) (hin : ∀ j : Int32, 0 ≤ j → j ≤ 5 → vp_in (nI i + j) L) (H : Rel w) (next : ∀ w1, Rel w1 → Sm G () 2282 (LV G b i) [] w1 (some ())) : Sm G () 983 (LV G b i) [] w (some ()) := by
  obtain ⟨r, w1, w2, e1, e2, R⟩ := ag_deepest H 
  obtain ⟨e1, f1⟩ := pu_some e1
  subst f1
  obtain ⟨e2, f2⟩ := pu_some e2
  subst f2
  refine sm_aload_n C 2 rfl dL_983 rfl ?_
  refine sl_callI (As := []) (ny := 5) (fr' := 1) (lo' := 28) C cfX9_deepest wl54 kd_0 rfl rfl rfl rfl rfl dL_984 (mX9_deepest e1) ?_
  refine sm_aload_n C 1 rfl dL_987 rfl ?_
  refine sl_callI (As := []) (ny := 5) (fr' := 2) (lo' := 45) C cfX10_deepest wl55 kd_79 rfl rfl rfl rfl rfl dL_988 (mX10_deepest e2) ?_
  exact sl_icmp_eq C dL_991 (tgt := 2282) rfl (next _ R)
-- without
theorem lq_k28 {G : Gx} {b L i : Nat} {xs : Nat → Int32} {w : HW} (C : Cx G code "SacredHensLaw" 4 15 560) (X : Lx G b L xs) (hin : ∀ j : Int32, 0 ≤ j → j ≤ 5 → vp_in (nI i + j) L) (H : Rel w) (next : ∀ w1, Rel w1 → Sm G () 2282 (LV G b i) [] w1 (some ())) : Sm G () 996 (LV G b i) [] w (some ()) := by
  obtain ⟨r, w1, w2, e1, e2, R⟩ := ag_without H (xs (nI i + 1).toNatClampNeg)
  refine sm_aload_n C 2 rfl dL_996 rfl ?_
  refine sm_aload_n C 3 rfl dL_997 rfl ?_
  refine sm_iload_n C 0 rfl dL_998 rfl ?_
  refine sm_iconst C (v := 1) (by decide) dL_999 ?_
  refine sm_iadd C dL_1000 ?_
  refine sl_sld C X (hin 1 (by decide) (by decide)) dL_1001 ?_
  refine sl_callI (As := [.int (xs (nI i + 1).toNatClampNeg)]) (ny := 2) (fr' := 6) (lo' := 148) C cfX9_without wl56 kd_0 rfl rfl rfl rfl rfl dL_1002 (mX9_without e1) ?_
  refine sm_aload_n C 1 rfl dL_1005 rfl ?_
  refine sm_aload_n C 3 rfl dL_1006 rfl ?_
  refine sm_iload_n C 0 rfl dL_1007 rfl ?_
  refine sm_iconst C (v := 1) (by decide) dL_1008 ?_
  refine sm_iadd C dL_1009 ?_
  refine sl_sld C X (hin 1 (by decide) (by decide)) dL_1010 ?_
  refine sl_callI (As := [.int (xs (nI i + 1).toNatClampNeg)]) (ny := 2) (fr' := 7) (lo' := 159) C cfX10_without wl57 kd_79 rfl rfl rfl rfl rfl dL_1011 (mX10_without e2) ?_
  exact sl_icmp_eq C dL_1014 (tgt := 2282) rfl (next _ R)
-- value
theorem lq_k29 {G : Gx} {b L i : Nat} {xs : Nat → Int32} {w : HW} (C : Cx G code "SacredHensLaw" 4 15 560) (X : Lx G b L xs) (hin : ∀ j : Int32, 0 ≤ j → j ≤ 5 → vp_in (nI i + j) L) (H : Rel w) (next : ∀ w1, Rel w1 → Sm G () 2282 (LV G b i) [] w1 (some ())) : Sm G () 1019 (LV G b i) [] w (some ()) := by
  obtain ⟨r, w1, w2, e1, e2, R⟩ := ag_value H (xs (nI i + 1).toNatClampNeg)
  refine sm_aload_n C 2 rfl dL_1019 rfl ?_
  refine sm_aload_n C 3 rfl dL_1020 rfl ?_
  refine sm_iload_n C 0 rfl dL_1021 rfl ?_
  refine sm_iconst C (v := 1) (by decide) dL_1022 ?_
  refine sm_iadd C dL_1023 ?_
  refine sl_sld C X (hin 1 (by decide) (by decide)) dL_1024 ?_
  refine sl_callI (As := [.int (xs (nI i + 1).toNatClampNeg)]) (ny := 2) (fr' := 6) (lo' := 148) C cfX9_value wl58 kd_0 rfl rfl rfl rfl rfl dL_1025 (mX9_value e1) ?_
  refine sm_aload_n C 1 rfl dL_1028 rfl ?_
  refine sm_aload_n C 3 rfl dL_1029 rfl ?_
  refine sm_iload_n C 0 rfl dL_1030 rfl ?_
  refine sm_iconst C (v := 1) (by decide) dL_1031 ?_
  refine sm_iadd C dL_1032 ?_
  refine sl_sld C X (hin 1 (by decide) (by decide)) dL_1033 ?_
  refine sl_callI (As := [.int (xs (nI i + 1).toNatClampNeg)]) (ny := 2) (fr' := 7) (lo' := 159) C cfX10_value wl59 kd_79 rfl rfl rfl rfl rfl dL_1034 (mX10_value e2) ?_
  exact sl_icmp_eq C dL_1037 (tgt := 2282) rfl (next _ R)
-- together
theorem lq_k30 {G : Gx} {b L i : Nat} {xs : Nat → Int32} {w : HW} (C : Cx G code "SacredHensLaw" 4 15 560) (X : Lx G b L xs) (hin : ∀ j : Int32, 0 ≤ j → j ≤ 5 → vp_in (nI i + j) L) (H : Rel w) (next : ∀ w1, Rel w1 → Sm G () 2282 (LV G b i) [] w1 (some ())) : Sm G () 1042 (LV G b i) [] w (some ()) := by
  obtain ⟨r, w1, w2, e1, e2, R⟩ := ag_together H 
  refine sm_aload_n C 2 rfl dL_1042 rfl ?_
  refine sl_callI (As := []) (ny := 1) (fr' := 5) (lo' := 126) C cfX9_together wl60 kd_0 rfl rfl rfl rfl rfl dL_1043 (mX9_together e1) ?_
  refine sm_aload_n C 1 rfl dL_1046 rfl ?_
  refine sl_callI (As := []) (ny := 1) (fr' := 6) (lo' := 137) C cfX10_together wl61 kd_79 rfl rfl rfl rfl rfl dL_1047 (mX10_together e2) ?_
  exact sl_icmp_eq C dL_1050 (tgt := 2282) rfl (next _ R)
-- stop
theorem lq_k31 {G : Gx} {b L i : Nat} {xs : Nat → Int32} {w : HW} (C : Cx G code "SacredHensLaw" 4 15 560) (X : Lx G b L xs) (hin : ∀ j : Int32, 0 ≤ j → j ≤ 5 → vp_in (nI i + j) L) (H : Rel w) (next : ∀ w1, Rel w1 → Sm G () 2282 (LV G b i) [] w1 (some ())) : Sm G () 1055 (LV G b i) [] w (some ()) := by
  obtain ⟨r, w1, w2, e1, e2, R⟩ := ag_stop H (xs (nI i + 1).toNatClampNeg)
  obtain ⟨e2, f2⟩ := pu_some e2
  subst f2
  refine sm_aload_n C 2 rfl dL_1055 rfl ?_
  refine sm_aload_n C 3 rfl dL_1056 rfl ?_
  refine sm_iload_n C 0 rfl dL_1057 rfl ?_
  refine sm_iconst C (v := 1) (by decide) dL_1058 ?_
  refine sm_iadd C dL_1059 ?_
  refine sl_sld C X (hin 1 (by decide) (by decide)) dL_1060 ?_
  refine sl_callI (As := [.int (xs (nI i + 1).toNatClampNeg)]) (ny := 2) (fr' := 5) (lo' := 116) C cfX9_stop wl62 kd_0 rfl rfl rfl rfl rfl dL_1061 (mX9_stop e1) ?_
  refine sm_aload_n C 1 rfl dL_1064 rfl ?_
  refine sm_aload_n C 3 rfl dL_1065 rfl ?_
  refine sm_iload_n C 0 rfl dL_1066 rfl ?_
  refine sm_iconst C (v := 1) (by decide) dL_1067 ?_
  refine sm_iadd C dL_1068 ?_
  refine sl_sld C X (hin 1 (by decide) (by decide)) dL_1069 ?_
  refine sl_callI (As := [.int (xs (nI i + 1).toNatClampNeg)]) (ny := 2) (fr' := 5) (lo' := 115) C cfX10_stop wl63 kd_79 rfl rfl rfl rfl rfl dL_1070 (mX10_stop e2) ?_
  exact sl_icmp_eq C dL_1073 (tgt := 2282) rfl (next _ R)
-- stops
theorem lq_k32 {G : Gx} {b L i : Nat} {xs : Nat → Int32} {w : HW} (C : Cx G code "SacredHensLaw" 4 15 560) (X : Lx G b L xs) (hin : ∀ j : Int32, 0 ≤ j → j ≤ 5 → vp_in (nI i + j) L) (H : Rel w) (next : ∀ w1, Rel w1 → Sm G () 2282 (LV G b i) [] w1 (some ())) : Sm G () 1078 (LV G b i) [] w (some ()) := by
  obtain ⟨r, w1, w2, e1, e2, R⟩ := ag_stops H (xs (nI i + 1).toNatClampNeg)
  obtain ⟨e2, f2⟩ := pu_some e2
  subst f2
  refine sm_aload_n C 2 rfl dL_1078 rfl ?_
  refine sm_aload_n C 3 rfl dL_1079 rfl ?_
  refine sm_iload_n C 0 rfl dL_1080 rfl ?_
  refine sm_iconst C (v := 1) (by decide) dL_1081 ?_
  refine sm_iadd C dL_1082 ?_
  refine sl_sld C X (hin 1 (by decide) (by decide)) dL_1083 ?_
  refine sl_callI (As := [.int (xs (nI i + 1).toNatClampNeg)]) (ny := 2) (fr' := 5) (lo' := 116) C cfX9_stops wl64 kd_0 rfl rfl rfl rfl rfl dL_1084 (mX9_stops e1) ?_
  refine sm_aload_n C 1 rfl dL_1087 rfl ?_
  refine sm_aload_n C 3 rfl dL_1088 rfl ?_
  refine sm_iload_n C 0 rfl dL_1089 rfl ?_
  refine sm_iconst C (v := 1) (by decide) dL_1090 ?_
  refine sm_iadd C dL_1091 ?_
  refine sl_sld C X (hin 1 (by decide) (by decide)) dL_1092 ?_
  refine sl_callI (As := [.int (xs (nI i + 1).toNatClampNeg)]) (ny := 2) (fr' := 5) (lo' := 115) C cfX10_stops wl65 kd_79 rfl rfl rfl rfl rfl dL_1093 (mX10_stops e2) ?_
  exact sl_icmp_eq C dL_1096 (tgt := 2282) rfl (next _ R)
-- spoil
theorem lq_k33 {G : Gx} {b L i : Nat} {xs : Nat → Int32} {w : HW} (C : Cx G code "SacredHensLaw" 4 15 560) (X : Lx G b L xs) (hin : ∀ j : Int32, 0 ≤ j → j ≤ 5 → vp_in (nI i + j) L) (H : Rel w) (next : ∀ w1, Rel w1 → Sm G () 2282 (LV G b i) [] w1 (some ())) : Sm G () 1101 (LV G b i) [] w (some ()) := by
  obtain ⟨r, w1, w2, e1, e2, R⟩ := ag_spoil H (xs (nI i + 1).toNatClampNeg)
  refine sm_aload_n C 2 rfl dL_1101 rfl ?_
  refine sm_aload_n C 3 rfl dL_1102 rfl ?_
  refine sm_iload_n C 0 rfl dL_1103 rfl ?_
  refine sm_iconst C (v := 1) (by decide) dL_1104 ?_
  refine sm_iadd C dL_1105 ?_
  refine sl_sld C X (hin 1 (by decide) (by decide)) dL_1106 ?_
  refine sl_callI (As := [.int (xs (nI i + 1).toNatClampNeg)]) (ny := 2) (fr' := 7) (lo' := 173) C cfX9_spoil wl66 kd_0 rfl rfl rfl rfl rfl dL_1107 (mX9_spoil e1) ?_
  refine sm_aload_n C 1 rfl dL_1110 rfl ?_
  refine sm_aload_n C 3 rfl dL_1111 rfl ?_
  refine sm_iload_n C 0 rfl dL_1112 rfl ?_
  refine sm_iconst C (v := 1) (by decide) dL_1113 ?_
  refine sm_iadd C dL_1114 ?_
  refine sl_sld C X (hin 1 (by decide) (by decide)) dL_1115 ?_
  refine sl_callI (As := [.int (xs (nI i + 1).toNatClampNeg)]) (ny := 2) (fr' := 7) (lo' := 161) C cfX10_spoil wl67 kd_79 rfl rfl rfl rfl rfl dL_1116 (mX10_spoil e2) ?_
  exact sl_icmp_eq C dL_1119 (tgt := 2282) rfl (next _ R)
-- spoilt
theorem lq_k34 {G : Gx} {b L i : Nat} {xs : Nat → Int32} {w : HW} (C : Cx G code "SacredHensLaw" 4 15 560) (X : Lx G b L xs) (hin : ∀ j : Int32, 0 ≤ j → j ≤ 5 → vp_in (nI i + j) L) (H : Rel w) (next : ∀ w1, Rel w1 → Sm G () 2282 (LV G b i) [] w1 (some ())) : Sm G () 1124 (LV G b i) [] w (some ()) := by
  obtain ⟨r, w1, w2, e1, e2, R⟩ := ag_spoilt H (xs (nI i + 1).toNatClampNeg)
  refine sm_aload_n C 2 rfl dL_1124 rfl ?_
  refine sm_aload_n C 3 rfl dL_1125 rfl ?_
  refine sm_iload_n C 0 rfl dL_1126 rfl ?_
  refine sm_iconst C (v := 1) (by decide) dL_1127 ?_
  refine sm_iadd C dL_1128 ?_
  refine sl_sld C X (hin 1 (by decide) (by decide)) dL_1129 ?_
  refine sl_callI (As := [.int (xs (nI i + 1).toNatClampNeg)]) (ny := 3) (fr' := 7) (lo' := 173) C cfX9_spoilt wl68 kd_0 rfl rfl rfl rfl rfl dL_1130 (mX9_spoilt e1) ?_
  refine sm_aload_n C 1 rfl dL_1133 rfl ?_
  refine sm_aload_n C 3 rfl dL_1134 rfl ?_
  refine sm_iload_n C 0 rfl dL_1135 rfl ?_
  refine sm_iconst C (v := 1) (by decide) dL_1136 ?_
  refine sm_iadd C dL_1137 ?_
  refine sl_sld C X (hin 1 (by decide) (by decide)) dL_1138 ?_
  refine sl_callI (As := [.int (xs (nI i + 1).toNatClampNeg)]) (ny := 2) (fr' := 7) (lo' := 161) C cfX10_spoilt wl69 kd_79 rfl rfl rfl rfl rfl dL_1139 (mX10_spoilt e2) ?_
  exact sl_icmp_eq C dL_1142 (tgt := 2282) rfl (next _ R)
-- bribe
theorem lq_k35 {G : Gx} {b L i : Nat} {xs : Nat → Int32} {w : HW} (C : Cx G code "SacredHensLaw" 4 15 560) (X : Lx G b L xs) (hin : ∀ j : Int32, 0 ≤ j → j ≤ 5 → vp_in (nI i + j) L) (H : Rel w) (next : ∀ w1, Rel w1 → Sm G () 2282 (LV G b i) [] w1 (some ())) : Sm G () 1147 (LV G b i) [] w (some ()) := by
  obtain ⟨r, w1, w2, e1, e2, R⟩ := ag_bribe H (xs (nI i + 1).toNatClampNeg)
  refine sm_aload_n C 2 rfl dL_1147 rfl ?_
  refine sm_aload_n C 3 rfl dL_1148 rfl ?_
  refine sm_iload_n C 0 rfl dL_1149 rfl ?_
  refine sm_iconst C (v := 1) (by decide) dL_1150 ?_
  refine sm_iadd C dL_1151 ?_
  refine sl_sld C X (hin 1 (by decide) (by decide)) dL_1152 ?_
  refine sl_callI (As := [.int (xs (nI i + 1).toNatClampNeg)]) (ny := 6) (fr' := 6) (lo' := 147) C cfX9_bribe wl70 kd_0 rfl rfl rfl rfl rfl dL_1153 (mX9_bribe e1) ?_
  refine sm_aload_n C 1 rfl dL_1156 rfl ?_
  refine sm_aload_n C 3 rfl dL_1157 rfl ?_
  refine sm_iload_n C 0 rfl dL_1158 rfl ?_
  refine sm_iconst C (v := 1) (by decide) dL_1159 ?_
  refine sm_iadd C dL_1160 ?_
  refine sl_sld C X (hin 1 (by decide) (by decide)) dL_1161 ?_
  refine sl_callI (As := [.int (xs (nI i + 1).toNatClampNeg)]) (ny := 6) (fr' := 6) (lo' := 137) C cfX10_bribe wl71 kd_79 rfl rfl rfl rfl rfl dL_1162 (mX10_bribe e2) ?_
  exact sl_icmp_eq C dL_1165 (tgt := 2282) rfl (next _ R)
-- unmark
theorem lq_k36 {G : Gx} {b L i : Nat} {xs : Nat → Int32} {w : HW} (C : Cx G code "SacredHensLaw" 4 15 560) (X : Lx G b L xs) (hin : ∀ j : Int32, 0 ≤ j → j ≤ 5 → vp_in (nI i + j) L) (H : Rel w) (next : ∀ w1, Rel w1 → Sm G () 2282 (LV G b i) [] w1 (some ())) : Sm G () 1170 (LV G b i) [] w (some ()) := by
  obtain ⟨r, w1, w2, e1, e2, R⟩ := ag_unmark H (xs (nI i + 1).toNatClampNeg)
  refine sm_aload_n C 2 rfl dL_1170 rfl ?_
  refine sm_aload_n C 3 rfl dL_1171 rfl ?_
  refine sm_iload_n C 0 rfl dL_1172 rfl ?_
  refine sm_iconst C (v := 1) (by decide) dL_1173 ?_
  refine sm_iadd C dL_1174 ?_
  refine sl_sld C X (hin 1 (by decide) (by decide)) dL_1175 ?_
  refine sl_callI (As := [.int (xs (nI i + 1).toNatClampNeg)]) (ny := 6) (fr' := 6) (lo' := 147) C cfX9_unmark wl72 kd_0 rfl rfl rfl rfl rfl dL_1176 (mX9_unmark e1) ?_
  refine sm_aload_n C 1 rfl dL_1179 rfl ?_
  refine sm_aload_n C 3 rfl dL_1180 rfl ?_
  refine sm_iload_n C 0 rfl dL_1181 rfl ?_
  refine sm_iconst C (v := 1) (by decide) dL_1182 ?_
  refine sm_iadd C dL_1183 ?_
  refine sl_sld C X (hin 1 (by decide) (by decide)) dL_1184 ?_
  refine sl_callI (As := [.int (xs (nI i + 1).toNatClampNeg)]) (ny := 6) (fr' := 6) (lo' := 137) C cfX10_unmark wl73 kd_79 rfl rfl rfl rfl rfl dL_1185 (mX10_unmark e2) ?_
  exact sl_icmp_eq C dL_1188 (tgt := 2282) rfl (next _ R)
-- college
theorem lq_k37 {G : Gx} {b L i : Nat} {xs : Nat → Int32} {w : HW} (C : Cx G code "SacredHensLaw" 4 15 560) (X : Lx G b L xs) (hin : ∀ j : Int32, 0 ≤ j → j ≤ 5 → vp_in (nI i + j) L) (H : Rel w) (next : ∀ w1, Rel w1 → Sm G () 2282 (LV G b i) [] w1 (some ())) : Sm G () 1193 (LV G b i) [] w (some ()) := by
  obtain ⟨r, w1, w2, e1, e2, R⟩ := ag_college H (xs (nI i + 1).toNatClampNeg)
  obtain ⟨e1, f1⟩ := pu_some e1
  subst f1
  obtain ⟨e2, f2⟩ := pu_some e2
  subst f2
  refine sm_aload_n C 2 rfl dL_1193 rfl ?_
  refine sm_aload_n C 3 rfl dL_1194 rfl ?_
  refine sm_iload_n C 0 rfl dL_1195 rfl ?_
  refine sm_iconst C (v := 1) (by decide) dL_1196 ?_
  refine sm_iadd C dL_1197 ?_
  refine sl_sld C X (hin 1 (by decide) (by decide)) dL_1198 ?_
  refine sl_callI (As := [.int (xs (nI i + 1).toNatClampNeg)]) (ny := 2) (fr' := 3) (lo' := 69) C cfX9_college wl74 kd_0 rfl rfl rfl rfl rfl dL_1199 (mX9_college e1) ?_
  refine sm_aload_n C 1 rfl dL_1202 rfl ?_
  refine sm_aload_n C 3 rfl dL_1203 rfl ?_
  refine sm_iload_n C 0 rfl dL_1204 rfl ?_
  refine sm_iconst C (v := 1) (by decide) dL_1205 ?_
  refine sm_iadd C dL_1206 ?_
  refine sl_sld C X (hin 1 (by decide) (by decide)) dL_1207 ?_
  refine sl_callI (As := [.int (xs (nI i + 1).toNatClampNeg)]) (ny := 2) (fr' := 5) (lo' := 114) C cfX10_college wl75 kd_79 rfl rfl rfl rfl rfl dL_1208 (mX10_college e2) ?_
  exact sl_icmp_eq C dL_1211 (tgt := 2282) rfl (next _ R)
-- chosen
theorem lq_k38 {G : Gx} {b L i : Nat} {xs : Nat → Int32} {w : HW} (C : Cx G code "SacredHensLaw" 4 15 560) (X : Lx G b L xs) (hin : ∀ j : Int32, 0 ≤ j → j ≤ 5 → vp_in (nI i + j) L) (H : Rel w) (next : ∀ w1, Rel w1 → Sm G () 2282 (LV G b i) [] w1 (some ())) : Sm G () 1216 (LV G b i) [] w (some ()) := by
  obtain ⟨r, w1, w2, e1, e2, R⟩ := ag_chosen H (xs (nI i + 1).toNatClampNeg)
  obtain ⟨e1, f1⟩ := pu_some e1
  subst f1
  obtain ⟨e2, f2⟩ := pu_some e2
  subst f2
  refine sm_aload_n C 2 rfl dL_1216 rfl ?_
  refine sm_aload_n C 3 rfl dL_1217 rfl ?_
  refine sm_iload_n C 0 rfl dL_1218 rfl ?_
  refine sm_iconst C (v := 1) (by decide) dL_1219 ?_
  refine sm_iadd C dL_1220 ?_
  refine sl_sld C X (hin 1 (by decide) (by decide)) dL_1221 ?_
  refine sl_callI (As := [.int (xs (nI i + 1).toNatClampNeg)]) (ny := 2) (fr' := 3) (lo' := 69) C cfX9_chosen wl76 kd_0 rfl rfl rfl rfl rfl dL_1222 (mX9_chosen e1) ?_
  refine sm_aload_n C 1 rfl dL_1225 rfl ?_
  refine sm_aload_n C 3 rfl dL_1226 rfl ?_
  refine sm_iload_n C 0 rfl dL_1227 rfl ?_
  refine sm_iconst C (v := 1) (by decide) dL_1228 ?_
  refine sm_iadd C dL_1229 ?_
  refine sl_sld C X (hin 1 (by decide) (by decide)) dL_1230 ?_
  refine sl_callI (As := [.int (xs (nI i + 1).toNatClampNeg)]) (ny := 2) (fr' := 5) (lo' := 114) C cfX10_chosen wl77 kd_79 rfl rfl rfl rfl rfl dL_1231 (mX10_chosen e2) ?_
  exact sl_icmp_eq C dL_1234 (tgt := 2282) rfl (next _ R)
-- hold
theorem lq_k39 {G : Gx} {b L i : Nat} {xs : Nat → Int32} {w : HW} (C : Cx G code "SacredHensLaw" 4 15 560) (X : Lx G b L xs) (hin : ∀ j : Int32, 0 ≤ j → j ≤ 5 → vp_in (nI i + j) L) (H : Rel w) (next : ∀ w1, Rel w1 → Sm G () 2282 (LV G b i) [] w1 (some ())) : Sm G () 1239 (LV G b i) [] w (some ()) := by
  obtain ⟨r, w1, w2, e1, e2, R⟩ := ag_hold H (xs (nI i + 1).toNatClampNeg) (xs (nI i + 2).toNatClampNeg)
  obtain ⟨e1, f1⟩ := pu_some e1
  subst f1
  obtain ⟨e2, f2⟩ := pu_some e2
  subst f2
  refine sm_aload_n C 2 rfl dL_1239 rfl ?_
  refine sm_aload_n C 3 rfl dL_1240 rfl ?_
  refine sm_iload_n C 0 rfl dL_1241 rfl ?_
  refine sm_iconst C (v := 1) (by decide) dL_1242 ?_
  refine sm_iadd C dL_1243 ?_
  refine sl_sld C X (hin 1 (by decide) (by decide)) dL_1244 ?_
  refine sm_aload_n C 3 rfl dL_1245 rfl ?_
  refine sm_iload_n C 0 rfl dL_1246 rfl ?_
  refine sm_iconst C (v := 2) (by decide) dL_1247 ?_
  refine sm_iadd C dL_1248 ?_
  refine sl_sld C X (hin 2 (by decide) (by decide)) dL_1249 ?_
  refine sl_callI (As := [.int (xs (nI i + 1).toNatClampNeg), .int (xs (nI i + 2).toNatClampNeg)]) (ny := 6) (fr' := 2) (lo' := 44) C cfX9_hold wl78 kd_0 rfl rfl rfl rfl rfl dL_1250 (mX9_hold e1) ?_
  refine sm_aload_n C 1 rfl dL_1253 rfl ?_
  refine sm_aload_n C 3 rfl dL_1254 rfl ?_
  refine sm_iload_n C 0 rfl dL_1255 rfl ?_
  refine sm_iconst C (v := 1) (by decide) dL_1256 ?_
  refine sm_iadd C dL_1257 ?_
  refine sl_sld C X (hin 1 (by decide) (by decide)) dL_1258 ?_
  refine sm_aload_n C 3 rfl dL_1259 rfl ?_
  refine sm_iload_n C 0 rfl dL_1260 rfl ?_
  refine sm_iconst C (v := 2) (by decide) dL_1261 ?_
  refine sm_iadd C dL_1262 ?_
  refine sl_sld C X (hin 2 (by decide) (by decide)) dL_1263 ?_
  refine sl_callI (As := [.int (xs (nI i + 1).toNatClampNeg), .int (xs (nI i + 2).toNatClampNeg)]) (ny := 6) (fr' := 3) (lo' := 69) C cfX10_hold wl79 kd_79 rfl rfl rfl rfl rfl dL_1264 (mX10_hold e2) ?_
  exact sl_icmp_eq C dL_1267 (tgt := 2282) rfl (next _ R)
-- idle
theorem lq_k40 {G : Gx} {b L i : Nat} {xs : Nat → Int32} {w : HW} (C : Cx G code "SacredHensLaw" 4 15 560) (X : Lx G b L xs) (hin : ∀ j : Int32, 0 ≤ j → j ≤ 5 → vp_in (nI i + j) L) (H : Rel w) (next : ∀ w1, Rel w1 → Sm G () 2282 (LV G b i) [] w1 (some ())) : Sm G () 1272 (LV G b i) [] w (some ()) := by
  obtain ⟨r, w1, w2, e1, e2, R⟩ := ag_idle H (xs (nI i + 1).toNatClampNeg)
  obtain ⟨e1, f1⟩ := pu_some e1
  subst f1
  obtain ⟨e2, f2⟩ := pu_some e2
  subst f2
  refine sm_aload_n C 2 rfl dL_1272 rfl ?_
  refine sm_aload_n C 3 rfl dL_1273 rfl ?_
  refine sm_iload_n C 0 rfl dL_1274 rfl ?_
  refine sm_iconst C (v := 1) (by decide) dL_1275 ?_
  refine sm_iadd C dL_1276 ?_
  refine sl_sld C X (hin 1 (by decide) (by decide)) dL_1277 ?_
  refine sl_callI (As := [.int (xs (nI i + 1).toNatClampNeg)]) (ny := 2) (fr' := 3) (lo' := 70) C cfX9_idle wl80 kd_0 rfl rfl rfl rfl rfl dL_1278 (mX9_idle e1) ?_
  refine sm_aload_n C 1 rfl dL_1281 rfl ?_
  refine sm_aload_n C 3 rfl dL_1282 rfl ?_
  refine sm_iload_n C 0 rfl dL_1283 rfl ?_
  refine sm_iconst C (v := 1) (by decide) dL_1284 ?_
  refine sm_iadd C dL_1285 ?_
  refine sl_sld C X (hin 1 (by decide) (by decide)) dL_1286 ?_
  refine sl_callI (As := [.int (xs (nI i + 1).toNatClampNeg)]) (ny := 4) (fr' := 4) (lo' := 90) C cfX10_idle wl81 kd_79 rfl rfl rfl rfl rfl dL_1287 (mX10_idle e2) ?_
  exact sl_icmp_eq C dL_1290 (tgt := 2282) rfl (next _ R)
-- lone
theorem lq_k41 {G : Gx} {b L i : Nat} {xs : Nat → Int32} {w : HW} (C : Cx G code "SacredHensLaw" 4 15 560) (X : Lx G b L xs) (hin : ∀ j : Int32, 0 ≤ j → j ≤ 5 → vp_in (nI i + j) L) (H : Rel w) (next : ∀ w1, Rel w1 → Sm G () 2282 (LV G b i) [] w1 (some ())) : Sm G () 1295 (LV G b i) [] w (some ()) := by
  obtain ⟨r, w1, w2, e1, e2, R⟩ := ag_lone H (xs (nI i + 1).toNatClampNeg)
  obtain ⟨e1, f1⟩ := pu_some e1
  subst f1
  obtain ⟨e2, f2⟩ := pu_some e2
  subst f2
  refine sm_aload_n C 2 rfl dL_1295 rfl ?_
  refine sm_aload_n C 3 rfl dL_1296 rfl ?_
  refine sm_iload_n C 0 rfl dL_1297 rfl ?_
  refine sm_iconst C (v := 1) (by decide) dL_1298 ?_
  refine sm_iadd C dL_1299 ?_
  refine sl_sld C X (hin 1 (by decide) (by decide)) dL_1300 ?_
  refine sl_callI (As := [.int (xs (nI i + 1).toNatClampNeg)]) (ny := 2) (fr' := 3) (lo' := 70) C cfX9_lone wl82 kd_0 rfl rfl rfl rfl rfl dL_1301 (mX9_lone e1) ?_
  refine sm_aload_n C 1 rfl dL_1304 rfl ?_
  refine sm_aload_n C 3 rfl dL_1305 rfl ?_
  refine sm_iload_n C 0 rfl dL_1306 rfl ?_
  refine sm_iconst C (v := 1) (by decide) dL_1307 ?_
  refine sm_iadd C dL_1308 ?_
  refine sl_sld C X (hin 1 (by decide) (by decide)) dL_1309 ?_
  refine sl_callI (As := [.int (xs (nI i + 1).toNatClampNeg)]) (ny := 4) (fr' := 4) (lo' := 90) C cfX10_lone wl83 kd_79 rfl rfl rfl rfl rfl dL_1310 (mX10_lone e2) ?_
  exact sl_icmp_eq C dL_1313 (tgt := 2282) rfl (next _ R)
-- tenure
theorem lq_k42 {G : Gx} {b L i : Nat} {xs : Nat → Int32} {w : HW} (C : Cx G code "SacredHensLaw" 4 15 560) (X : Lx G b L xs) (hin : ∀ j : Int32, 0 ≤ j → j ≤ 5 → vp_in (nI i + j) L) (H : Rel w) (next : ∀ w1, Rel w1 → Sm G () 2282 (LV G b i) [] w1 (some ())) : Sm G () 1318 (LV G b i) [] w (some ()) := by
  obtain ⟨r, w1, w2, e1, e2, R⟩ := ag_tenure H (xs (nI i + 1).toNatClampNeg)
  obtain ⟨e1, f1⟩ := pu_some e1
  subst f1
  obtain ⟨e2, f2⟩ := pu_some e2
  subst f2
  refine sm_aload_n C 2 rfl dL_1318 rfl ?_
  refine sm_aload_n C 3 rfl dL_1319 rfl ?_
  refine sm_iload_n C 0 rfl dL_1320 rfl ?_
  refine sm_iconst C (v := 1) (by decide) dL_1321 ?_
  refine sm_iadd C dL_1322 ?_
  refine sl_sld C X (hin 1 (by decide) (by decide)) dL_1323 ?_
  refine sl_callI (As := [.int (xs (nI i + 1).toNatClampNeg)]) (ny := 6) (fr' := 2) (lo' := 41) C cfX9_tenure wl84 kd_0 rfl rfl rfl rfl rfl dL_1324 (mX9_tenure e1) ?_
  refine sm_aload_n C 1 rfl dL_1327 rfl ?_
  refine sm_aload_n C 3 rfl dL_1328 rfl ?_
  refine sm_iload_n C 0 rfl dL_1329 rfl ?_
  refine sm_iconst C (v := 1) (by decide) dL_1330 ?_
  refine sm_iadd C dL_1331 ?_
  refine sl_sld C X (hin 1 (by decide) (by decide)) dL_1332 ?_
  refine sl_callI (As := [.int (xs (nI i + 1).toNatClampNeg)]) (ny := 4) (fr' := 2) (lo' := 46) C cfX10_tenure wl85 kd_79 rfl rfl rfl rfl rfl dL_1333 (mX10_tenure e2) ?_
  exact sl_icmp_eq C dL_1336 (tgt := 2282) rfl (next _ R)
-- clear
theorem lq_k43 {G : Gx} {b L i : Nat} {xs : Nat → Int32} {w : HW} (C : Cx G code "SacredHensLaw" 4 15 560) (X : Lx G b L xs) (hin : ∀ j : Int32, 0 ≤ j → j ≤ 5 → vp_in (nI i + j) L) (H : Rel w) (next : ∀ w1, Rel w1 → Sm G () 2282 (LV G b i) [] w1 (some ())) : Sm G () 1341 (LV G b i) [] w (some ()) := by
  obtain ⟨r, w1, w2, e1, e2, R⟩ := ag_clear H (xs (nI i + 1).toNatClampNeg)
  obtain ⟨e1, f1⟩ := pu_some e1
  subst f1
  obtain ⟨e2, f2⟩ := pu_some e2
  subst f2
  refine sm_aload_n C 2 rfl dL_1341 rfl ?_
  refine sm_aload_n C 3 rfl dL_1342 rfl ?_
  refine sm_iload_n C 0 rfl dL_1343 rfl ?_
  refine sm_iconst C (v := 1) (by decide) dL_1344 ?_
  refine sm_iadd C dL_1345 ?_
  refine sl_sld C X (hin 1 (by decide) (by decide)) dL_1346 ?_
  refine sl_callI (As := [.int (xs (nI i + 1).toNatClampNeg)]) (ny := 2) (fr' := 3) (lo' := 65) C cfX9_clear wl86 kd_0 rfl rfl rfl rfl rfl dL_1347 (mX9_clear e1) ?_
  refine sm_aload_n C 1 rfl dL_1350 rfl ?_
  refine sm_aload_n C 3 rfl dL_1351 rfl ?_
  refine sm_iload_n C 0 rfl dL_1352 rfl ?_
  refine sm_iconst C (v := 1) (by decide) dL_1353 ?_
  refine sm_iadd C dL_1354 ?_
  refine sl_sld C X (hin 1 (by decide) (by decide)) dL_1355 ?_
  refine sl_callI (As := [.int (xs (nI i + 1).toNatClampNeg)]) (ny := 2) (fr' := 4) (lo' := 91) C cfX10_clear wl87 kd_79 rfl rfl rfl rfl rfl dL_1356 (mX10_clear e2) ?_
  exact sl_icmp_eq C dL_1359 (tgt := 2282) rfl (next _ R)
-- run
theorem lq_k44 {G : Gx} {b L i : Nat} {xs : Nat → Int32} {w : HW} (C : Cx G code "SacredHensLaw" 4 15 560) (X : Lx G b L xs) (hin : ∀ j : Int32, 0 ≤ j → j ≤ 5 → vp_in (nI i + j) L) (H : Rel w) (next : ∀ w1, Rel w1 → Sm G () 2282 (LV G b i) [] w1 (some ())) : Sm G () 1364 (LV G b i) [] w (some ()) := by
  obtain ⟨r, w1, w2, e1, e2, R⟩ := ag_run H (xs (nI i + 1).toNatClampNeg)
  obtain ⟨e1, f1⟩ := pu_some e1
  subst f1
  obtain ⟨e2, f2⟩ := pu_some e2
  subst f2
  refine sm_aload_n C 2 rfl dL_1364 rfl ?_
  refine sm_aload_n C 3 rfl dL_1365 rfl ?_
  refine sm_iload_n C 0 rfl dL_1366 rfl ?_
  refine sm_iconst C (v := 1) (by decide) dL_1367 ?_
  refine sm_iadd C dL_1368 ?_
  refine sl_sld C X (hin 1 (by decide) (by decide)) dL_1369 ?_
  refine sl_callI (As := [.int (xs (nI i + 1).toNatClampNeg)]) (ny := 2) (fr' := 3) (lo' := 65) C cfX9_run wl88 kd_0 rfl rfl rfl rfl rfl dL_1370 (mX9_run e1) ?_
  refine sm_aload_n C 1 rfl dL_1373 rfl ?_
  refine sm_aload_n C 3 rfl dL_1374 rfl ?_
  refine sm_iload_n C 0 rfl dL_1375 rfl ?_
  refine sm_iconst C (v := 1) (by decide) dL_1376 ?_
  refine sm_iadd C dL_1377 ?_
  refine sl_sld C X (hin 1 (by decide) (by decide)) dL_1378 ?_
  refine sl_callI (As := [.int (xs (nI i + 1).toNatClampNeg)]) (ny := 2) (fr' := 4) (lo' := 91) C cfX10_run wl89 kd_79 rfl rfl rfl rfl rfl dL_1379 (mX10_run e2) ?_
  exact sl_icmp_eq C dL_1382 (tgt := 2282) rfl (next _ R)
-- both
theorem lq_k45 {G : Gx} {b L i : Nat} {xs : Nat → Int32} {w : HW} (C : Cx G code "SacredHensLaw" 4 15 560) (X : Lx G b L xs) (hin : ∀ j : Int32, 0 ≤ j → j ≤ 5 → vp_in (nI i + j) L) (H : Rel w) (next : ∀ w1, Rel w1 → Sm G () 2282 (LV G b i) [] w1 (some ())) : Sm G () 1387 (LV G b i) [] w (some ()) := by
  obtain ⟨r, w1, w2, e1, e2, R⟩ := ag_both H 
  obtain ⟨e1, f1⟩ := pu_some e1
  subst f1
  obtain ⟨e2, f2⟩ := pu_some e2
  subst f2
  refine sm_aload_n C 2 rfl dL_1387 rfl ?_
  refine sl_callI (As := []) (ny := 1) (fr' := 2) (lo' := 44) C cfX9_both wl90 kd_0 rfl rfl rfl rfl rfl dL_1388 (mX9_both e1) ?_
  refine sm_aload_n C 1 rfl dL_1391 rfl ?_
  refine sl_callI (As := []) (ny := 1) (fr' := 4) (lo' := 90) C cfX10_both wl91 kd_79 rfl rfl rfl rfl rfl dL_1392 (mX10_both e2) ?_
  exact sl_icmp_eq C dL_1395 (tgt := 2282) rfl (next _ R)
-- falls
theorem lq_k46 {G : Gx} {b L i : Nat} {xs : Nat → Int32} {w : HW} (C : Cx G code "SacredHensLaw" 4 15 560) (X : Lx G b L xs) (hin : ∀ j : Int32, 0 ≤ j → j ≤ 5 → vp_in (nI i + j) L) (H : Rel w) (next : ∀ w1, Rel w1 → Sm G () 2282 (LV G b i) [] w1 (some ())) : Sm G () 1400 (LV G b i) [] w (some ()) := by
  obtain ⟨r, w1, w2, e1, e2, R⟩ := ag_falls H (xs (nI i + 1).toNatClampNeg)
  refine sm_aload_n C 2 rfl dL_1400 rfl ?_
  refine sm_aload_n C 3 rfl dL_1401 rfl ?_
  refine sm_iload_n C 0 rfl dL_1402 rfl ?_
  refine sm_iconst C (v := 1) (by decide) dL_1403 ?_
  refine sm_iadd C dL_1404 ?_
  refine sl_sld C X (hin 1 (by decide) (by decide)) dL_1405 ?_
  refine sl_callI (As := [.int (xs (nI i + 1).toNatClampNeg)]) (ny := 2) (fr' := 6) (lo' := 135) C cfX9_falls wl92 kd_0 rfl rfl rfl rfl rfl dL_1406 (mX9_falls e1) ?_
  refine sm_aload_n C 1 rfl dL_1409 rfl ?_
  refine sm_aload_n C 3 rfl dL_1410 rfl ?_
  refine sm_iload_n C 0 rfl dL_1411 rfl ?_
  refine sm_iconst C (v := 1) (by decide) dL_1412 ?_
  refine sm_iadd C dL_1413 ?_
  refine sl_sld C X (hin 1 (by decide) (by decide)) dL_1414 ?_
  refine sl_callI (As := [.int (xs (nI i + 1).toNatClampNeg)]) (ny := 2) (fr' := 8) (lo' := 178) C cfX10_falls wl93 kd_79 rfl rfl rfl rfl rfl dL_1415 (mX10_falls e2) ?_
  exact sl_icmp_eq C dL_1418 (tgt := 2282) rfl (next _ R)
-- worst
theorem lq_k47 {G : Gx} {b L i : Nat} {xs : Nat → Int32} {w : HW} (C : Cx G code "SacredHensLaw" 4 15 560) (X : Lx G b L xs) (hin : ∀ j : Int32, 0 ≤ j → j ≤ 5 → vp_in (nI i + j) L) (H : Rel w) (next : ∀ w1, Rel w1 → Sm G () 2282 (LV G b i) [] w1 (some ())) : Sm G () 1423 (LV G b i) [] w (some ()) := by
  obtain ⟨r, w1, w2, e1, e2, R⟩ := ag_worst H 
  refine sm_aload_n C 2 rfl dL_1423 rfl ?_
  refine sl_callI (As := []) (ny := 5) (fr' := 6) (lo' := 135) C cfX9_worst wl94 kd_0 rfl rfl rfl rfl rfl dL_1424 (mX9_worst e1) ?_
  refine sm_aload_n C 1 rfl dL_1427 rfl ?_
  refine sl_callI (As := []) (ny := 5) (fr' := 7) (lo' := 157) C cfX10_worst wl95 kd_79 rfl rfl rfl rfl rfl dL_1428 (mX10_worst e2) ?_
  exact sl_icmp_eq C dL_1431 (tgt := 2282) rfl (next _ R)
-- needs
theorem lq_k48 {G : Gx} {b L i : Nat} {xs : Nat → Int32} {w : HW} (C : Cx G code "SacredHensLaw" 4 15 560) (X : Lx G b L xs) (hin : ∀ j : Int32, 0 ≤ j → j ≤ 5 → vp_in (nI i + j) L) (H : Rel w) (next : ∀ w1, Rel w1 → Sm G () 2282 (LV G b i) [] w1 (some ())) : Sm G () 1436 (LV G b i) [] w (some ()) := by
  obtain ⟨r, w1, w2, e1, e2, R⟩ := ag_needs H (xs (nI i + 1).toNatClampNeg)
  obtain ⟨e1, f1⟩ := pu_some e1
  subst f1
  obtain ⟨e2, f2⟩ := pu_some e2
  subst f2
  refine sm_aload_n C 2 rfl dL_1436 rfl ?_
  refine sm_aload_n C 3 rfl dL_1437 rfl ?_
  refine sm_iload_n C 0 rfl dL_1438 rfl ?_
  refine sm_iconst C (v := 1) (by decide) dL_1439 ?_
  refine sm_iadd C dL_1440 ?_
  refine sl_sld C X (hin 1 (by decide) (by decide)) dL_1441 ?_
  refine sl_callI (As := [.int (xs (nI i + 1).toNatClampNeg)]) (ny := 2) (fr' := 1) (lo' := 24) C cfX9_needs wl96 kd_0 rfl rfl rfl rfl rfl dL_1442 (mX9_needs e1) ?_
  refine sm_aload_n C 1 rfl dL_1445 rfl ?_
  refine sm_aload_n C 3 rfl dL_1446 rfl ?_
  refine sm_iload_n C 0 rfl dL_1447 rfl ?_
  refine sm_iconst C (v := 1) (by decide) dL_1448 ?_
  refine sm_iadd C dL_1449 ?_
  refine sl_sld C X (hin 1 (by decide) (by decide)) dL_1450 ?_
  refine sl_callI (As := [.int (xs (nI i + 1).toNatClampNeg)]) (ny := 2) (fr' := 2) (lo' := 46) C cfX10_needs_ wl97 kd_79 rfl rfl rfl rfl rfl dL_1451 (mX10_needs_ e2) ?_
  exact sl_icmp_eq C dL_1454 (tgt := 2282) rfl (next _ R)
-- heirs
theorem lq_k49 {G : Gx} {b L i : Nat} {xs : Nat → Int32} {w : HW} (C : Cx G code "SacredHensLaw" 4 15 560) (X : Lx G b L xs) (hin : ∀ j : Int32, 0 ≤ j → j ≤ 5 → vp_in (nI i + j) L) (H : Rel w) (next : ∀ w1, Rel w1 → Sm G () 2282 (LV G b i) [] w1 (some ())) : Sm G () 1459 (LV G b i) [] w (some ()) := by
  obtain ⟨r, w1, w2, e1, e2, R⟩ := ag_heirs H (xs (nI i + 1).toNatClampNeg)
  obtain ⟨e1, f1⟩ := pu_some e1
  subst f1
  obtain ⟨e2, f2⟩ := pu_some e2
  subst f2
  refine sm_aload_n C 2 rfl dL_1459 rfl ?_
  refine sm_aload_n C 3 rfl dL_1460 rfl ?_
  refine sm_iload_n C 0 rfl dL_1461 rfl ?_
  refine sm_iconst C (v := 1) (by decide) dL_1462 ?_
  refine sm_iadd C dL_1463 ?_
  refine sl_sld C X (hin 1 (by decide) (by decide)) dL_1464 ?_
  refine sl_callI (As := [.int (xs (nI i + 1).toNatClampNeg)]) (ny := 2) (fr' := 2) (lo' := 47) C cfX9_heirs wl98 kd_0 rfl rfl rfl rfl rfl dL_1465 (mX9_heirs e1) ?_
  refine sm_aload_n C 1 rfl dL_1468 rfl ?_
  refine sm_aload_n C 3 rfl dL_1469 rfl ?_
  refine sm_iload_n C 0 rfl dL_1470 rfl ?_
  refine sm_iconst C (v := 1) (by decide) dL_1471 ?_
  refine sm_iadd C dL_1472 ?_
  refine sl_sld C X (hin 1 (by decide) (by decide)) dL_1473 ?_
  refine sl_callI (As := [.int (xs (nI i + 1).toNatClampNeg)]) (ny := 4) (fr' := 2) (lo' := 46) C cfX10_heirs wl99 kd_79 rfl rfl rfl rfl rfl dL_1474 (mX10_heirs e2) ?_
  exact sl_icmp_eq C dL_1477 (tgt := 2282) rfl (next _ R)
-- fits
theorem lq_k50 {G : Gx} {b L i : Nat} {xs : Nat → Int32} {w : HW} (C : Cx G code "SacredHensLaw" 4 15 560) (X : Lx G b L xs) (hin : ∀ j : Int32, 0 ≤ j → j ≤ 5 → vp_in (nI i + j) L) (H : Rel w) (next : ∀ w1, Rel w1 → Sm G () 2282 (LV G b i) [] w1 (some ())) : Sm G () 1482 (LV G b i) [] w (some ()) := by
  obtain ⟨r, w1, w2, e1, e2, R⟩ := ag_fits H (xs (nI i + 1).toNatClampNeg)
  refine sm_aload_n C 2 rfl dL_1482 rfl ?_
  refine sm_aload_n C 3 rfl dL_1483 rfl ?_
  refine sm_iload_n C 0 rfl dL_1484 rfl ?_
  refine sm_iconst C (v := 1) (by decide) dL_1485 ?_
  refine sm_iadd C dL_1486 ?_
  refine sl_sld C X (hin 1 (by decide) (by decide)) dL_1487 ?_
  refine sl_callI (As := [.int (xs (nI i + 1).toNatClampNeg)]) (ny := 3) (fr' := 4) (lo' := 95) C cfX9_fits wl100 kd_0 rfl rfl rfl rfl rfl dL_1488 (mX9_fits e1) ?_
  refine sm_aload_n C 1 rfl dL_1491 rfl ?_
  refine sm_aload_n C 3 rfl dL_1492 rfl ?_
  refine sm_iload_n C 0 rfl dL_1493 rfl ?_
  refine sm_iconst C (v := 1) (by decide) dL_1494 ?_
  refine sm_iadd C dL_1495 ?_
  refine sl_sld C X (hin 1 (by decide) (by decide)) dL_1496 ?_
  refine sl_callI (As := [.int (xs (nI i + 1).toNatClampNeg)]) (ny := 3) (fr' := 3) (lo' := 73) C cfX10_fits wl101 kd_79 rfl rfl rfl rfl rfl dL_1497 (mX10_fits e2) ?_
  exact sl_icmp_eq C dL_1500 (tgt := 2282) rfl (next _ R)
-- fed
theorem lq_k51 {G : Gx} {b L i : Nat} {xs : Nat → Int32} {w : HW} (C : Cx G code "SacredHensLaw" 4 15 560) (X : Lx G b L xs) (hin : ∀ j : Int32, 0 ≤ j → j ≤ 5 → vp_in (nI i + j) L) (H : Rel w) (next : ∀ w1, Rel w1 → Sm G () 2282 (LV G b i) [] w1 (some ())) : Sm G () 1505 (LV G b i) [] w (some ()) := by
  obtain ⟨r, w1, w2, e1, e2, R⟩ := ag_fed H (xs (nI i + 1).toNatClampNeg)
  refine sm_aload_n C 2 rfl dL_1505 rfl ?_
  refine sm_aload_n C 3 rfl dL_1506 rfl ?_
  refine sm_iload_n C 0 rfl dL_1507 rfl ?_
  refine sm_iconst C (v := 1) (by decide) dL_1508 ?_
  refine sm_iadd C dL_1509 ?_
  refine sl_sld C X (hin 1 (by decide) (by decide)) dL_1510 ?_
  refine sl_callI (As := [.int (xs (nI i + 1).toNatClampNeg)]) (ny := 3) (fr' := 4) (lo' := 95) C cfX9_fed wl102 kd_0 rfl rfl rfl rfl rfl dL_1511 (mX9_fed e1) ?_
  refine sm_aload_n C 1 rfl dL_1514 rfl ?_
  refine sm_aload_n C 3 rfl dL_1515 rfl ?_
  refine sm_iload_n C 0 rfl dL_1516 rfl ?_
  refine sm_iconst C (v := 1) (by decide) dL_1517 ?_
  refine sm_iadd C dL_1518 ?_
  refine sl_sld C X (hin 1 (by decide) (by decide)) dL_1519 ?_
  refine sl_callI (As := [.int (xs (nI i + 1).toNatClampNeg)]) (ny := 3) (fr' := 3) (lo' := 73) C cfX10_fed wl103 kd_79 rfl rfl rfl rfl rfl dL_1520 (mX10_fed e2) ?_
  exact sl_icmp_eq C dL_1523 (tgt := 2282) rfl (next _ R)
-- starved
theorem lq_k52 {G : Gx} {b L i : Nat} {xs : Nat → Int32} {w : HW} (C : Cx G code "SacredHensLaw" 4 15 560) (X : Lx G b L xs) (hin : ∀ j : Int32, 0 ≤ j → j ≤ 5 → vp_in (nI i + j) L) (H : Rel w) (next : ∀ w1, Rel w1 → Sm G () 2282 (LV G b i) [] w1 (some ())) : Sm G () 1528 (LV G b i) [] w (some ()) := by
  obtain ⟨r, w1, w2, e1, e2, R⟩ := ag_starved H (xs (nI i + 1).toNatClampNeg)
  refine sm_aload_n C 2 rfl dL_1528 rfl ?_
  refine sm_aload_n C 3 rfl dL_1529 rfl ?_
  refine sm_iload_n C 0 rfl dL_1530 rfl ?_
  refine sm_iconst C (v := 1) (by decide) dL_1531 ?_
  refine sm_iadd C dL_1532 ?_
  refine sl_sld C X (hin 1 (by decide) (by decide)) dL_1533 ?_
  refine sl_callI (As := [.int (xs (nI i + 1).toNatClampNeg)]) (ny := 3) (fr' := 4) (lo' := 95) C cfX9_starved wl104 kd_0 rfl rfl rfl rfl rfl dL_1534 (mX9_starved e1) ?_
  refine sm_aload_n C 1 rfl dL_1537 rfl ?_
  refine sm_aload_n C 3 rfl dL_1538 rfl ?_
  refine sm_iload_n C 0 rfl dL_1539 rfl ?_
  refine sm_iconst C (v := 1) (by decide) dL_1540 ?_
  refine sm_iadd C dL_1541 ?_
  refine sl_sld C X (hin 1 (by decide) (by decide)) dL_1542 ?_
  refine sl_callI (As := [.int (xs (nI i + 1).toNatClampNeg)]) (ny := 3) (fr' := 3) (lo' := 73) C cfX10_starved wl105 kd_79 rfl rfl rfl rfl rfl dL_1543 (mX10_starved e2) ?_
  exact sl_icmp_eq C dL_1546 (tgt := 2282) rfl (next _ R)
-- least
theorem lq_k53 {G : Gx} {b L i : Nat} {xs : Nat → Int32} {w : HW} (C : Cx G code "SacredHensLaw" 4 15 560) (X : Lx G b L xs) (hin : ∀ j : Int32, 0 ≤ j → j ≤ 5 → vp_in (nI i + j) L) (H : Rel w) (next : ∀ w1, Rel w1 → Sm G () 2282 (LV G b i) [] w1 (some ())) : Sm G () 1551 (LV G b i) [] w (some ()) := by
  obtain ⟨r, w1, w2, e1, e2, R⟩ := ag_least H (xs (nI i + 1).toNatClampNeg)
  refine sm_aload_n C 2 rfl dL_1551 rfl ?_
  refine sm_aload_n C 3 rfl dL_1552 rfl ?_
  refine sm_iload_n C 0 rfl dL_1553 rfl ?_
  refine sm_iconst C (v := 1) (by decide) dL_1554 ?_
  refine sm_iadd C dL_1555 ?_
  refine sl_sld C X (hin 1 (by decide) (by decide)) dL_1556 ?_
  refine sl_callI (As := [.int (xs (nI i + 1).toNatClampNeg)]) (ny := 3) (fr' := 4) (lo' := 95) C cfX9_least wl106 kd_0 rfl rfl rfl rfl rfl dL_1557 (mX9_least e1) ?_
  refine sm_aload_n C 1 rfl dL_1560 rfl ?_
  refine sm_aload_n C 3 rfl dL_1561 rfl ?_
  refine sm_iload_n C 0 rfl dL_1562 rfl ?_
  refine sm_iconst C (v := 1) (by decide) dL_1563 ?_
  refine sm_iadd C dL_1564 ?_
  refine sl_sld C X (hin 1 (by decide) (by decide)) dL_1565 ?_
  refine sl_callI (As := [.int (xs (nI i + 1).toNatClampNeg)]) (ny := 3) (fr' := 3) (lo' := 73) C cfX10_least wl107 kd_79 rfl rfl rfl rfl rfl dL_1566 (mX10_least e2) ?_
  exact sl_icmp_eq C dL_1569 (tgt := 2282) rfl (next _ R)
-- ask
theorem lq_k54 {G : Gx} {b L i : Nat} {xs : Nat → Int32} {w : HW} (C : Cx G code "SacredHensLaw" 4 15 560) (X : Lx G b L xs) (hin : ∀ j : Int32, 0 ≤ j → j ≤ 5 → vp_in (nI i + j) L) (H : Rel w) (next : ∀ w1, Rel w1 → Sm G () 2282 (LV G b i) [] w1 (some ())) : Sm G () 1574 (LV G b i) [] w (some ()) := by
  obtain ⟨r, w1, w2, e1, e2, R⟩ := ag_ask H (xs (nI i + 1).toNatClampNeg)
  refine sm_aload_n C 2 rfl dL_1574 rfl ?_
  refine sm_aload_n C 3 rfl dL_1575 rfl ?_
  refine sm_iload_n C 0 rfl dL_1576 rfl ?_
  refine sm_iconst C (v := 1) (by decide) dL_1577 ?_
  refine sm_iadd C dL_1578 ?_
  refine sl_sld C X (hin 1 (by decide) (by decide)) dL_1579 ?_
  refine sl_callI (As := [.int (xs (nI i + 1).toNatClampNeg)]) (ny := 3) (fr' := 4) (lo' := 95) C cfX9_ask wl108 kd_0 rfl rfl rfl rfl rfl dL_1580 (mX9_ask e1) ?_
  refine sm_aload_n C 1 rfl dL_1583 rfl ?_
  refine sm_aload_n C 3 rfl dL_1584 rfl ?_
  refine sm_iload_n C 0 rfl dL_1585 rfl ?_
  refine sm_iconst C (v := 1) (by decide) dL_1586 ?_
  refine sm_iadd C dL_1587 ?_
  refine sl_sld C X (hin 1 (by decide) (by decide)) dL_1588 ?_
  refine sl_callI (As := [.int (xs (nI i + 1).toNatClampNeg)]) (ny := 3) (fr' := 3) (lo' := 73) C cfX10_ask wl109 kd_79 rfl rfl rfl rfl rfl dL_1589 (mX10_ask e2) ?_
  exact sl_icmp_eq C dL_1592 (tgt := 2282) rfl (next _ R)
-- leaves
theorem lq_k55 {G : Gx} {b L i : Nat} {xs : Nat → Int32} {w : HW} (C : Cx G code "SacredHensLaw" 4 15 560) (X : Lx G b L xs) (hin : ∀ j : Int32, 0 ≤ j → j ≤ 5 → vp_in (nI i + j) L) (H : Rel w) (next : ∀ w1, Rel w1 → Sm G () 2282 (LV G b i) [] w1 (some ())) : Sm G () 1597 (LV G b i) [] w (some ()) := by
  obtain ⟨r, w1, w2, e1, e2, R⟩ := ag_leaves H (xs (nI i + 1).toNatClampNeg)
  refine sm_aload_n C 2 rfl dL_1597 rfl ?_
  refine sm_aload_n C 3 rfl dL_1598 rfl ?_
  refine sm_iload_n C 0 rfl dL_1599 rfl ?_
  refine sm_iconst C (v := 1) (by decide) dL_1600 ?_
  refine sm_iadd C dL_1601 ?_
  refine sl_sld C X (hin 1 (by decide) (by decide)) dL_1602 ?_
  refine sl_callI (As := [.int (xs (nI i + 1).toNatClampNeg)]) (ny := 4) (fr' := 4) (lo' := 95) C cfX9_leaves wl110 kd_0 rfl rfl rfl rfl rfl dL_1603 (mX9_leaves e1) ?_
  refine sm_aload_n C 1 rfl dL_1606 rfl ?_
  refine sm_aload_n C 3 rfl dL_1607 rfl ?_
  refine sm_iload_n C 0 rfl dL_1608 rfl ?_
  refine sm_iconst C (v := 1) (by decide) dL_1609 ?_
  refine sm_iadd C dL_1610 ?_
  refine sl_sld C X (hin 1 (by decide) (by decide)) dL_1611 ?_
  refine sl_callI (As := [.int (xs (nI i + 1).toNatClampNeg)]) (ny := 3) (fr' := 3) (lo' := 73) C cfX10_leaves wl111 kd_79 rfl rfl rfl rfl rfl dL_1612 (mX10_leaves e2) ?_
  exact sl_icmp_eq C dL_1615 (tgt := 2282) rfl (next _ R)
-- tally
theorem lq_k56 {G : Gx} {b L i : Nat} {xs : Nat → Int32} {w : HW} (C : Cx G code "SacredHensLaw" 4 15 560) (X : Lx G b L xs) (hin : ∀ j : Int32, 0 ≤ j → j ≤ 5 → vp_in (nI i + j) L) (H : Rel w) (next : ∀ w1, Rel w1 → Sm G () 2282 (LV G b i) [] w1 (some ())) : Sm G () 1620 (LV G b i) [] w (some ()) := by
  obtain ⟨r, w1, w2, e1, e2, R⟩ := ag_tally H (xs (nI i + 1).toNatClampNeg) (xs (nI i + 2).toNatClampNeg) (xs (nI i + 3).toNatClampNeg)
  refine sm_aload_n C 2 rfl dL_1620 rfl ?_
  refine sm_aload_n C 3 rfl dL_1621 rfl ?_
  refine sm_iload_n C 0 rfl dL_1622 rfl ?_
  refine sm_iconst C (v := 1) (by decide) dL_1623 ?_
  refine sm_iadd C dL_1624 ?_
  refine sl_sld C X (hin 1 (by decide) (by decide)) dL_1625 ?_
  refine sm_aload_n C 3 rfl dL_1626 rfl ?_
  refine sm_iload_n C 0 rfl dL_1627 rfl ?_
  refine sm_iconst C (v := 2) (by decide) dL_1628 ?_
  refine sm_iadd C dL_1629 ?_
  refine sl_sld C X (hin 2 (by decide) (by decide)) dL_1630 ?_
  refine sm_aload_n C 3 rfl dL_1631 rfl ?_
  refine sm_iload_n C 0 rfl dL_1632 rfl ?_
  refine sm_iconst C (v := 3) (by decide) dL_1633 ?_
  refine sm_iadd C dL_1634 ?_
  refine sl_sld C X (hin 3 (by decide) (by decide)) dL_1635 ?_
  refine sl_callI (As := [.int (xs (nI i + 1).toNatClampNeg), .int (xs (nI i + 2).toNatClampNeg), .int (xs (nI i + 3).toNatClampNeg)]) (ny := 5) (fr' := 2) (lo' := 47) C cfX9_tally wl112 kd_0 rfl rfl rfl rfl rfl dL_1636 (mX9_tally e1) ?_
  refine sm_aload_n C 1 rfl dL_1639 rfl ?_
  refine sm_aload_n C 3 rfl dL_1640 rfl ?_
  refine sm_iload_n C 0 rfl dL_1641 rfl ?_
  refine sm_iconst C (v := 1) (by decide) dL_1642 ?_
  refine sm_iadd C dL_1643 ?_
  refine sl_sld C X (hin 1 (by decide) (by decide)) dL_1644 ?_
  refine sm_aload_n C 3 rfl dL_1645 rfl ?_
  refine sm_iload_n C 0 rfl dL_1646 rfl ?_
  refine sm_iconst C (v := 2) (by decide) dL_1647 ?_
  refine sm_iadd C dL_1648 ?_
  refine sl_sld C X (hin 2 (by decide) (by decide)) dL_1649 ?_
  refine sm_aload_n C 3 rfl dL_1650 rfl ?_
  refine sm_iload_n C 0 rfl dL_1651 rfl ?_
  refine sm_iconst C (v := 3) (by decide) dL_1652 ?_
  refine sm_iadd C dL_1653 ?_
  refine sl_sld C X (hin 3 (by decide) (by decide)) dL_1654 ?_
  refine sl_callI (As := [.int (xs (nI i + 1).toNatClampNeg), .int (xs (nI i + 2).toNatClampNeg), .int (xs (nI i + 3).toNatClampNeg)]) (ny := 5) (fr' := 3) (lo' := 68) C cfX10_tally wl113 kd_79 rfl rfl rfl rfl rfl dL_1655 (mX10_tally e2) ?_
  exact sl_icmp_eq C dL_1658 (tgt := 2282) rfl (next _ R)
-- doubt
theorem lq_k57 {G : Gx} {b L i : Nat} {xs : Nat → Int32} {w : HW} (C : Cx G code "SacredHensLaw" 4 15 560) (X : Lx G b L xs) (hin : ∀ j : Int32, 0 ≤ j → j ≤ 5 → vp_in (nI i + j) L) (H : Rel w) (next : ∀ w1, Rel w1 → Sm G () 2282 (LV G b i) [] w1 (some ())) : Sm G () 1663 (LV G b i) [] w (some ()) := by
  obtain ⟨r, w1, w2, e1, e2, R⟩ := ag_doubt H (xs (nI i + 1).toNatClampNeg) (xs (nI i + 2).toNatClampNeg)
  refine sm_aload_n C 2 rfl dL_1663 rfl ?_
  refine sm_aload_n C 3 rfl dL_1664 rfl ?_
  refine sm_iload_n C 0 rfl dL_1665 rfl ?_
  refine sm_iconst C (v := 1) (by decide) dL_1666 ?_
  refine sm_iadd C dL_1667 ?_
  refine sl_sld C X (hin 1 (by decide) (by decide)) dL_1668 ?_
  refine sm_aload_n C 3 rfl dL_1669 rfl ?_
  refine sm_iload_n C 0 rfl dL_1670 rfl ?_
  refine sm_iconst C (v := 2) (by decide) dL_1671 ?_
  refine sm_iadd C dL_1672 ?_
  refine sl_sld C X (hin 2 (by decide) (by decide)) dL_1673 ?_
  refine sl_callJ (As := [.int (xs (nI i + 1).toNatClampNeg), .int (xs (nI i + 2).toNatClampNeg)]) (ny := 8) (fr' := 4) (lo' := 86) C cfX9_doubt wl114 kd_0 rfl rfl rfl rfl rfl dL_1674 (mX9_doubt e1) ?_
  refine sm_aload_n C 1 rfl dL_1677 rfl ?_
  refine sm_aload_n C 3 rfl dL_1678 rfl ?_
  refine sm_iload_n C 0 rfl dL_1679 rfl ?_
  refine sm_iconst C (v := 1) (by decide) dL_1680 ?_
  refine sm_iadd C dL_1681 ?_
  refine sl_sld C X (hin 1 (by decide) (by decide)) dL_1682 ?_
  refine sm_aload_n C 3 rfl dL_1683 rfl ?_
  refine sm_iload_n C 0 rfl dL_1684 rfl ?_
  refine sm_iconst C (v := 2) (by decide) dL_1685 ?_
  refine sm_iadd C dL_1686 ?_
  refine sl_sld C X (hin 2 (by decide) (by decide)) dL_1687 ?_
  refine sl_callJ (As := [.int (xs (nI i + 1).toNatClampNeg), .int (xs (nI i + 2).toNatClampNeg)]) (ny := 10) (fr' := 3) (lo' := 68) C cfX10_doubt wl115 kd_79 rfl rfl rfl rfl rfl dL_1688 (mX10_doubt e2) ?_
  refine sm_lcmp C dL_1691 ?_
  exact sl_ifeq C dL_1692 (tgt := 2282) rfl lq_0 (next _ R)
-- share
theorem lq_k58 {G : Gx} {b L i : Nat} {xs : Nat → Int32} {w : HW} (C : Cx G code "SacredHensLaw" 4 15 560) (X : Lx G b L xs) (hin : ∀ j : Int32, 0 ≤ j → j ≤ 5 → vp_in (nI i + j) L) (H : Rel w) (next : ∀ w1, Rel w1 → Sm G () 2282 (LV G b i) [] w1 (some ())) : Sm G () 1697 (LV G b i) [] w (some ()) := by
  obtain ⟨r, w1, w2, e1, e2, R⟩ := ag_share H (xs (nI i + 1).toNatClampNeg) (xs (nI i + 2).toNatClampNeg) (xs (nI i + 3).toNatClampNeg)
  refine sm_aload_n C 2 rfl dL_1697 rfl ?_
  refine sm_aload_n C 3 rfl dL_1698 rfl ?_
  refine sm_iload_n C 0 rfl dL_1699 rfl ?_
  refine sm_iconst C (v := 1) (by decide) dL_1700 ?_
  refine sm_iadd C dL_1701 ?_
  refine sl_sld C X (hin 1 (by decide) (by decide)) dL_1702 ?_
  refine sm_aload_n C 3 rfl dL_1703 rfl ?_
  refine sm_iload_n C 0 rfl dL_1704 rfl ?_
  refine sm_iconst C (v := 2) (by decide) dL_1705 ?_
  refine sm_iadd C dL_1706 ?_
  refine sl_sld C X (hin 2 (by decide) (by decide)) dL_1707 ?_
  refine sm_aload_n C 3 rfl dL_1708 rfl ?_
  refine sm_iload_n C 0 rfl dL_1709 rfl ?_
  refine sm_iconst C (v := 3) (by decide) dL_1710 ?_
  refine sm_iadd C dL_1711 ?_
  refine sl_sld C X (hin 3 (by decide) (by decide)) dL_1712 ?_
  refine sl_callI (As := [.int (xs (nI i + 1).toNatClampNeg), .int (xs (nI i + 2).toNatClampNeg), .int (xs (nI i + 3).toNatClampNeg)]) (ny := 6) (fr' := 3) (lo' := 63) C cfX9_share wl116 kd_0 rfl rfl rfl rfl rfl dL_1713 (mX9_share e1) ?_
  refine sm_aload_n C 1 rfl dL_1716 rfl ?_
  refine sm_aload_n C 3 rfl dL_1717 rfl ?_
  refine sm_iload_n C 0 rfl dL_1718 rfl ?_
  refine sm_iconst C (v := 1) (by decide) dL_1719 ?_
  refine sm_iadd C dL_1720 ?_
  refine sl_sld C X (hin 1 (by decide) (by decide)) dL_1721 ?_
  refine sm_aload_n C 3 rfl dL_1722 rfl ?_
  refine sm_iload_n C 0 rfl dL_1723 rfl ?_
  refine sm_iconst C (v := 2) (by decide) dL_1724 ?_
  refine sm_iadd C dL_1725 ?_
  refine sl_sld C X (hin 2 (by decide) (by decide)) dL_1726 ?_
  refine sm_aload_n C 3 rfl dL_1727 rfl ?_
  refine sm_iload_n C 0 rfl dL_1728 rfl ?_
  refine sm_iconst C (v := 3) (by decide) dL_1729 ?_
  refine sm_iadd C dL_1730 ?_
  refine sl_sld C X (hin 3 (by decide) (by decide)) dL_1731 ?_
  refine sl_callI (As := [.int (xs (nI i + 1).toNatClampNeg), .int (xs (nI i + 2).toNatClampNeg), .int (xs (nI i + 3).toNatClampNeg)]) (ny := 6) (fr' := 3) (lo' := 68) C cfX10_share wl117 kd_79 rfl rfl rfl rfl rfl dL_1732 (mX10_share e2) ?_
  exact sl_icmp_eq C dL_1735 (tgt := 2282) rfl (next _ R)
-- leans
theorem lq_k59 {G : Gx} {b L i : Nat} {xs : Nat → Int32} {w : HW} (C : Cx G code "SacredHensLaw" 4 15 560) (X : Lx G b L xs) (hin : ∀ j : Int32, 0 ≤ j → j ≤ 5 → vp_in (nI i + j) L) (H : Rel w) (next : ∀ w1, Rel w1 → Sm G () 2282 (LV G b i) [] w1 (some ())) : Sm G () 1740 (LV G b i) [] w (some ()) := by
  obtain ⟨r, w1, w2, e1, e2, R⟩ := ag_leans H (xs (nI i + 1).toNatClampNeg)
  refine sm_aload_n C 2 rfl dL_1740 rfl ?_
  refine sm_aload_n C 3 rfl dL_1741 rfl ?_
  refine sm_iload_n C 0 rfl dL_1742 rfl ?_
  refine sm_iconst C (v := 1) (by decide) dL_1743 ?_
  refine sm_iadd C dL_1744 ?_
  refine sl_sld C X (hin 1 (by decide) (by decide)) dL_1745 ?_
  refine sl_callI (As := [.int (xs (nI i + 1).toNatClampNeg)]) (ny := 5) (fr' := 3) (lo' := 63) C cfX9_leans wl118 kd_0 rfl rfl rfl rfl rfl dL_1746 (mX9_leans e1) ?_
  refine sm_aload_n C 1 rfl dL_1749 rfl ?_
  refine sm_aload_n C 3 rfl dL_1750 rfl ?_
  refine sm_iload_n C 0 rfl dL_1751 rfl ?_
  refine sm_iconst C (v := 1) (by decide) dL_1752 ?_
  refine sm_iadd C dL_1753 ?_
  refine sl_sld C X (hin 1 (by decide) (by decide)) dL_1754 ?_
  refine sl_callI (As := [.int (xs (nI i + 1).toNatClampNeg)]) (ny := 5) (fr' := 3) (lo' := 68) C cfX10_leans wl119 kd_79 rfl rfl rfl rfl rfl dL_1755 (mX10_leans e2) ?_
  exact sl_icmp_eq C dL_1758 (tgt := 2282) rfl (next _ R)
-- rests
theorem lq_k60 {G : Gx} {b L i : Nat} {xs : Nat → Int32} {w : HW} (C : Cx G code "SacredHensLaw" 4 15 560) (X : Lx G b L xs) (hin : ∀ j : Int32, 0 ≤ j → j ≤ 5 → vp_in (nI i + j) L) (H : Rel w) (next : ∀ w1, Rel w1 → Sm G () 2282 (LV G b i) [] w1 (some ())) : Sm G () 1763 (LV G b i) [] w (some ()) := by
  obtain ⟨r, w1, w2, e1, e2, R⟩ := ag_rests H (xs (nI i + 1).toNatClampNeg) (xs (nI i + 2).toNatClampNeg)
  obtain ⟨e1, f1⟩ := pu_some e1
  subst f1
  obtain ⟨e2, f2⟩ := pu_some e2
  subst f2
  refine sm_aload_n C 2 rfl dL_1763 rfl ?_
  refine sm_aload_n C 3 rfl dL_1764 rfl ?_
  refine sm_iload_n C 0 rfl dL_1765 rfl ?_
  refine sm_iconst C (v := 1) (by decide) dL_1766 ?_
  refine sm_iadd C dL_1767 ?_
  refine sl_sld C X (hin 1 (by decide) (by decide)) dL_1768 ?_
  refine sm_aload_n C 3 rfl dL_1769 rfl ?_
  refine sm_iload_n C 0 rfl dL_1770 rfl ?_
  refine sm_iconst C (v := 2) (by decide) dL_1771 ?_
  refine sm_iadd C dL_1772 ?_
  refine sl_sld C X (hin 2 (by decide) (by decide)) dL_1773 ?_
  refine sl_callI (As := [.int (xs (nI i + 1).toNatClampNeg), .int (xs (nI i + 2).toNatClampNeg)]) (ny := 5) (fr' := 2) (lo' := 47) C cfX9_rests wl120 kd_0 rfl rfl rfl rfl rfl dL_1774 (mX9_rests e1) ?_
  refine sm_aload_n C 1 rfl dL_1777 rfl ?_
  refine sm_aload_n C 3 rfl dL_1778 rfl ?_
  refine sm_iload_n C 0 rfl dL_1779 rfl ?_
  refine sm_iconst C (v := 1) (by decide) dL_1780 ?_
  refine sm_iadd C dL_1781 ?_
  refine sl_sld C X (hin 1 (by decide) (by decide)) dL_1782 ?_
  refine sm_aload_n C 3 rfl dL_1783 rfl ?_
  refine sm_iload_n C 0 rfl dL_1784 rfl ?_
  refine sm_iconst C (v := 2) (by decide) dL_1785 ?_
  refine sm_iadd C dL_1786 ?_
  refine sl_sld C X (hin 2 (by decide) (by decide)) dL_1787 ?_
  refine sl_callI (As := [.int (xs (nI i + 1).toNatClampNeg), .int (xs (nI i + 2).toNatClampNeg)]) (ny := 5) (fr' := 2) (lo' := 47) C cfX10_rests wl121 kd_79 rfl rfl rfl rfl rfl dL_1788 (mX10_rests e2) ?_
  exact sl_icmp_eq C dL_1791 (tgt := 2282) rfl (next _ R)
-- believes
theorem lq_k61 {G : Gx} {b L i : Nat} {xs : Nat → Int32} {w : HW} (C : Cx G code "SacredHensLaw" 4 15 560) (X : Lx G b L xs) (hin : ∀ j : Int32, 0 ≤ j → j ≤ 5 → vp_in (nI i + j) L) (H : Rel w) (next : ∀ w1, Rel w1 → Sm G () 2282 (LV G b i) [] w1 (some ())) : Sm G () 1796 (LV G b i) [] w (some ()) := by
  obtain ⟨r, w1, w2, e1, e2, R⟩ := ag_believes H (xs (nI i + 1).toNatClampNeg)
  obtain ⟨e1, f1⟩ := pu_some e1
  subst f1
  obtain ⟨e2, f2⟩ := pu_some e2
  subst f2
  refine sm_aload_n C 2 rfl dL_1796 rfl ?_
  refine sm_aload_n C 3 rfl dL_1797 rfl ?_
  refine sm_iload_n C 0 rfl dL_1798 rfl ?_
  refine sm_iconst C (v := 1) (by decide) dL_1799 ?_
  refine sm_iadd C dL_1800 ?_
  refine sl_sld C X (hin 1 (by decide) (by decide)) dL_1801 ?_
  refine sl_callI (As := [.int (xs (nI i + 1).toNatClampNeg)]) (ny := 3) (fr' := 2) (lo' := 47) C cfX9_believes wl122 kd_0 rfl rfl rfl rfl rfl dL_1802 (mX9_believes e1) ?_
  refine sm_aload_n C 1 rfl dL_1805 rfl ?_
  refine sm_aload_n C 3 rfl dL_1806 rfl ?_
  refine sm_iload_n C 0 rfl dL_1807 rfl ?_
  refine sm_iconst C (v := 1) (by decide) dL_1808 ?_
  refine sm_iadd C dL_1809 ?_
  refine sl_sld C X (hin 1 (by decide) (by decide)) dL_1810 ?_
  refine sl_callI (As := [.int (xs (nI i + 1).toNatClampNeg)]) (ny := 3) (fr' := 2) (lo' := 47) C cfX10_believes wl123 kd_79 rfl rfl rfl rfl rfl dL_1811 (mX10_believes e2) ?_
  exact sl_icmp_eq C dL_1814 (tgt := 2282) rfl (next _ R)
-- chance
theorem lq_k62 {G : Gx} {b L i : Nat} {xs : Nat → Int32} {w : HW} (C : Cx G code "SacredHensLaw" 4 15 560) (X : Lx G b L xs) (hin : ∀ j : Int32, 0 ≤ j → j ≤ 5 → vp_in (nI i + j) L) (H : Rel w) (next : ∀ w1, Rel w1 → Sm G () 2282 (LV G b i) [] w1 (some ())) : Sm G () 1819 (LV G b i) [] w (some ()) := by
  obtain ⟨r, w1, w2, e1, e2, R⟩ := ag_chance H (xs (nI i + 1).toNatClampNeg)
  refine sm_aload_n C 2 rfl dL_1819 rfl ?_
  refine sm_aload_n C 3 rfl dL_1820 rfl ?_
  refine sm_iload_n C 0 rfl dL_1821 rfl ?_
  refine sm_iconst C (v := 1) (by decide) dL_1822 ?_
  refine sm_iadd C dL_1823 ?_
  refine sl_sld C X (hin 1 (by decide) (by decide)) dL_1824 ?_
  refine sl_callJ (As := [.int (xs (nI i + 1).toNatClampNeg)]) (ny := 8) (fr' := 6) (lo' := 135) C cfX9_chance wl124 kd_0 rfl rfl rfl rfl rfl dL_1825 (mX9_chance e1) ?_
  refine sm_aload_n C 1 rfl dL_1828 rfl ?_
  refine sm_aload_n C 3 rfl dL_1829 rfl ?_
  refine sm_iload_n C 0 rfl dL_1830 rfl ?_
  refine sm_iconst C (v := 1) (by decide) dL_1831 ?_
  refine sm_iadd C dL_1832 ?_
  refine sl_sld C X (hin 1 (by decide) (by decide)) dL_1833 ?_
  refine sl_callJ (As := [.int (xs (nI i + 1).toNatClampNeg)]) (ny := 7) (fr' := 7) (lo' := 157) C cfX10_chance wl125 kd_79 rfl rfl rfl rfl rfl dL_1834 (mX10_chance e2) ?_
  refine sm_lcmp C dL_1837 ?_
  exact sl_ifeq C dL_1838 (tgt := 2282) rfl lq_0 (next _ R)
-- asks
theorem lq_k63 {G : Gx} {b L i : Nat} {xs : Nat → Int32} {w : HW} (C : Cx G code "SacredHensLaw" 4 15 560) (X : Lx G b L xs) (hin : ∀ j : Int32, 0 ≤ j → j ≤ 5 → vp_in (nI i + j) L) (H : Rel w) (next : ∀ w1, Rel w1 → Sm G () 2282 (LV G b i) [] w1 (some ())) : Sm G () 1843 (LV G b i) [] w (some ()) := by
  obtain ⟨r, w1, w2, e1, e2, R⟩ := ag_asks H (xs (nI i + 1).toNatClampNeg) (xs (nI i + 2).toNatClampNeg)
  refine sm_aload_n C 2 rfl dL_1843 rfl ?_
  refine sm_aload_n C 3 rfl dL_1844 rfl ?_
  refine sm_iload_n C 0 rfl dL_1845 rfl ?_
  refine sm_iconst C (v := 1) (by decide) dL_1846 ?_
  refine sm_iadd C dL_1847 ?_
  refine sl_sld C X (hin 1 (by decide) (by decide)) dL_1848 ?_
  refine sm_aload_n C 3 rfl dL_1849 rfl ?_
  refine sm_iload_n C 0 rfl dL_1850 rfl ?_
  refine sm_iconst C (v := 2) (by decide) dL_1851 ?_
  refine sm_iadd C dL_1852 ?_
  refine sl_sld C X (hin 2 (by decide) (by decide)) dL_1853 ?_
  refine sl_callI (As := [.int (xs (nI i + 1).toNatClampNeg), .int (xs (nI i + 2).toNatClampNeg)]) (ny := 3) (fr' := 6) (lo' := 135) C cfX9_asks wl126 kd_0 rfl rfl rfl rfl rfl dL_1854 (mX9_asks e1) ?_
  refine sm_aload_n C 1 rfl dL_1857 rfl ?_
  refine sm_aload_n C 3 rfl dL_1858 rfl ?_
  refine sm_iload_n C 0 rfl dL_1859 rfl ?_
  refine sm_iconst C (v := 1) (by decide) dL_1860 ?_
  refine sm_iadd C dL_1861 ?_
  refine sl_sld C X (hin 1 (by decide) (by decide)) dL_1862 ?_
  refine sm_aload_n C 3 rfl dL_1863 rfl ?_
  refine sm_iload_n C 0 rfl dL_1864 rfl ?_
  refine sm_iconst C (v := 2) (by decide) dL_1865 ?_
  refine sm_iadd C dL_1866 ?_
  refine sl_sld C X (hin 2 (by decide) (by decide)) dL_1867 ?_
  refine sl_callI (As := [.int (xs (nI i + 1).toNatClampNeg), .int (xs (nI i + 2).toNatClampNeg)]) (ny := 3) (fr' := 8) (lo' := 178) C cfX10_asks wl127 kd_79 rfl rfl rfl rfl rfl dL_1868 (mX10_asks e2) ?_
  exact sl_icmp_eq C dL_1871 (tgt := 2282) rfl (next _ R)
-- feeds
theorem lq_k64 {G : Gx} {b L i : Nat} {xs : Nat → Int32} {w : HW} (C : Cx G code "SacredHensLaw" 4 15 560) (X : Lx G b L xs) (hin : ∀ j : Int32, 0 ≤ j → j ≤ 5 → vp_in (nI i + j) L) (H : Rel w) (next : ∀ w1, Rel w1 → Sm G () 2282 (LV G b i) [] w1 (some ())) : Sm G () 1876 (LV G b i) [] w (some ()) := by
  obtain ⟨r, w1, w2, e1, e2, R⟩ := ag_feeds H (xs (nI i + 1).toNatClampNeg)
  refine sm_aload_n C 2 rfl dL_1876 rfl ?_
  refine sm_aload_n C 3 rfl dL_1877 rfl ?_
  refine sm_iload_n C 0 rfl dL_1878 rfl ?_
  refine sm_iconst C (v := 1) (by decide) dL_1879 ?_
  refine sm_iadd C dL_1880 ?_
  refine sl_sld C X (hin 1 (by decide) (by decide)) dL_1881 ?_
  refine sl_callI (As := [.int (xs (nI i + 1).toNatClampNeg)]) (ny := 2) (fr' := 6) (lo' := 135) C cfX9_feeds wl128 kd_0 rfl rfl rfl rfl rfl dL_1882 (mX9_feeds e1) ?_
  refine sm_aload_n C 1 rfl dL_1885 rfl ?_
  refine sm_aload_n C 3 rfl dL_1886 rfl ?_
  refine sm_iload_n C 0 rfl dL_1887 rfl ?_
  refine sm_iconst C (v := 1) (by decide) dL_1888 ?_
  refine sm_iadd C dL_1889 ?_
  refine sl_sld C X (hin 1 (by decide) (by decide)) dL_1890 ?_
  refine sl_callI (As := [.int (xs (nI i + 1).toNatClampNeg)]) (ny := 2) (fr' := 8) (lo' := 178) C cfX10_feeds wl129 kd_79 rfl rfl rfl rfl rfl dL_1891 (mX10_feeds e2) ?_
  exact sl_icmp_eq C dL_1894 (tgt := 2282) rfl (next _ R)
-- undo
theorem lq_k65 {G : Gx} {b L i : Nat} {xs : Nat → Int32} {w : HW} (C : Cx G code "SacredHensLaw" 4 15 560) (X : Lx G b L xs) (hin : ∀ j : Int32, 0 ≤ j → j ≤ 5 → vp_in (nI i + j) L) (H : Rel w) (next : ∀ w1, Rel w1 → Sm G () 2282 (LV G b i) [] w1 (some ())) : Sm G () 1899 (LV G b i) [] w (some ()) := by
  obtain ⟨r, w1, w2, e1, e2, R⟩ := ag_undo H 
  refine sm_aload_n C 2 rfl dL_1899 rfl ?_
  refine sl_callI (As := []) (ny := 1) (fr' := 1) (lo' := 20) C cfX9_undo wl130 kd_0 rfl rfl rfl rfl rfl dL_1900 (mX9_undo e1) ?_
  refine sm_aload_n C 1 rfl dL_1903 rfl ?_
  refine sl_callI (As := []) (ny := 1) (fr' := 1) (lo' := 20) C cfX10_undo wl131 kd_79 rfl rfl rfl rfl rfl dL_1904 (mX10_undo e2) ?_
  exact sl_icmp_eq C dL_1907 (tgt := 2282) rfl (next _ R)
-- anew
theorem lq_k66 {G : Gx} {b L i : Nat} {xs : Nat → Int32} {w : HW} (C : Cx G code "SacredHensLaw" 4 15 560) (X : Lx G b L xs) (hin : ∀ j : Int32, 0 ≤ j → j ≤ 5 → vp_in (nI i + j) L) (H : Rel w) (next : ∀ w1, Rel w1 → Sm G () 2282 (LV G b i) [] w1 (some ())) : Sm G () 1912 (LV G b i) [] w (some ()) := by
  obtain ⟨r, w1, w2, e1, e2, R⟩ := ag_anew H 
  refine sm_aload_n C 2 rfl dL_1912 rfl ?_
  refine sl_callI (As := []) (ny := 2) (fr' := 1) (lo' := 20) C cfX9_anew wl132 kd_0 rfl rfl rfl rfl rfl dL_1913 (mX9_anew e1) ?_
  refine sm_aload_n C 1 rfl dL_1916 rfl ?_
  refine sl_callI (As := []) (ny := 2) (fr' := 1) (lo' := 20) C cfX10_anew wl133 kd_79 rfl rfl rfl rfl rfl dL_1917 (mX10_anew e2) ?_
  exact sl_icmp_eq C dL_1920 (tgt := 2282) rfl (next _ R)
-- drawn
theorem lq_k67 {G : Gx} {b L i : Nat} {xs : Nat → Int32} {w : HW} (C : Cx G code "SacredHensLaw" 4 15 560) (X : Lx G b L xs) (hin : ∀ j : Int32, 0 ≤ j → j ≤ 5 → vp_in (nI i + j) L) (H : Rel w) (next : ∀ w1, Rel w1 → Sm G () 2282 (LV G b i) [] w1 (some ())) : Sm G () 1925 (LV G b i) [] w (some ()) := by
  obtain ⟨r, w1, w2, e1, e2, R⟩ := ag_drawn H (xs (nI i + 1).toNatClampNeg) (xs (nI i + 2).toNatClampNeg)
  refine sm_aload_n C 2 rfl dL_1925 rfl ?_
  refine sm_aload_n C 3 rfl dL_1926 rfl ?_
  refine sm_iload_n C 0 rfl dL_1927 rfl ?_
  refine sm_iconst C (v := 1) (by decide) dL_1928 ?_
  refine sm_iadd C dL_1929 ?_
  refine sl_sld C X (hin 1 (by decide) (by decide)) dL_1930 ?_
  refine sm_aload_n C 3 rfl dL_1931 rfl ?_
  refine sm_iload_n C 0 rfl dL_1932 rfl ?_
  refine sm_iconst C (v := 2) (by decide) dL_1933 ?_
  refine sm_iadd C dL_1934 ?_
  refine sl_sld C X (hin 2 (by decide) (by decide)) dL_1935 ?_
  refine sl_callI (As := [.int (xs (nI i + 1).toNatClampNeg), .int (xs (nI i + 2).toNatClampNeg)]) (ny := 3) (fr' := 6) (lo' := 136) C cfX9_drawn wl134 kd_0 rfl rfl rfl rfl rfl dL_1936 (mX9_drawn e1) ?_
  refine sm_aload_n C 1 rfl dL_1939 rfl ?_
  refine sm_aload_n C 3 rfl dL_1940 rfl ?_
  refine sm_iload_n C 0 rfl dL_1941 rfl ?_
  refine sm_iconst C (v := 1) (by decide) dL_1942 ?_
  refine sm_iadd C dL_1943 ?_
  refine sl_sld C X (hin 1 (by decide) (by decide)) dL_1944 ?_
  refine sm_aload_n C 3 rfl dL_1945 rfl ?_
  refine sm_iload_n C 0 rfl dL_1946 rfl ?_
  refine sm_iconst C (v := 2) (by decide) dL_1947 ?_
  refine sm_iadd C dL_1948 ?_
  refine sl_sld C X (hin 2 (by decide) (by decide)) dL_1949 ?_
  refine sl_callI (As := [.int (xs (nI i + 1).toNatClampNeg), .int (xs (nI i + 2).toNatClampNeg)]) (ny := 4) (fr' := 7) (lo' := 161) C cfX10_drawn wl135 kd_79 rfl rfl rfl rfl rfl dL_1950 (mX10_drawn e2) ?_
  exact sl_icmp_eq C dL_1953 (tgt := 2282) rfl (next _ R)
-- luck
theorem lq_k68 {G : Gx} {b L i : Nat} {xs : Nat → Int32} {w : HW} (C : Cx G code "SacredHensLaw" 4 15 560) (X : Lx G b L xs) (hin : ∀ j : Int32, 0 ≤ j → j ≤ 5 → vp_in (nI i + j) L) (H : Rel w) (next : ∀ w1, Rel w1 → Sm G () 2282 (LV G b i) [] w1 (some ())) : Sm G () 1958 (LV G b i) [] w (some ()) := by
  obtain ⟨r, w1, w2, e1, e2, R⟩ := ag_luck H (xs (nI i + 1).toNatClampNeg) (xs (nI i + 2).toNatClampNeg) (xs (nI i + 3).toNatClampNeg)
  refine sm_aload_n C 2 rfl dL_1958 rfl ?_
  refine sm_aload_n C 3 rfl dL_1959 rfl ?_
  refine sm_iload_n C 0 rfl dL_1960 rfl ?_
  refine sm_iconst C (v := 1) (by decide) dL_1961 ?_
  refine sm_iadd C dL_1962 ?_
  refine sl_sld C X (hin 1 (by decide) (by decide)) dL_1963 ?_
  refine sm_aload_n C 3 rfl dL_1964 rfl ?_
  refine sm_iload_n C 0 rfl dL_1965 rfl ?_
  refine sm_iconst C (v := 2) (by decide) dL_1966 ?_
  refine sm_iadd C dL_1967 ?_
  refine sl_sld C X (hin 2 (by decide) (by decide)) dL_1968 ?_
  refine sm_aload_n C 3 rfl dL_1969 rfl ?_
  refine sm_iload_n C 0 rfl dL_1970 rfl ?_
  refine sm_iconst C (v := 3) (by decide) dL_1971 ?_
  refine sm_iadd C dL_1972 ?_
  refine sl_sld C X (hin 3 (by decide) (by decide)) dL_1973 ?_
  refine sl_callI (As := [.int (xs (nI i + 1).toNatClampNeg), .int (xs (nI i + 2).toNatClampNeg), .int (xs (nI i + 3).toNatClampNeg)]) (ny := 6) (fr' := 6) (lo' := 136) C cfX9_luck wl136 kd_0 rfl rfl rfl rfl rfl dL_1974 (mX9_luck e1) ?_
  refine sm_aload_n C 1 rfl dL_1977 rfl ?_
  refine sm_aload_n C 3 rfl dL_1978 rfl ?_
  refine sm_iload_n C 0 rfl dL_1979 rfl ?_
  refine sm_iconst C (v := 1) (by decide) dL_1980 ?_
  refine sm_iadd C dL_1981 ?_
  refine sl_sld C X (hin 1 (by decide) (by decide)) dL_1982 ?_
  refine sm_aload_n C 3 rfl dL_1983 rfl ?_
  refine sm_iload_n C 0 rfl dL_1984 rfl ?_
  refine sm_iconst C (v := 2) (by decide) dL_1985 ?_
  refine sm_iadd C dL_1986 ?_
  refine sl_sld C X (hin 2 (by decide) (by decide)) dL_1987 ?_
  refine sm_aload_n C 3 rfl dL_1988 rfl ?_
  refine sm_iload_n C 0 rfl dL_1989 rfl ?_
  refine sm_iconst C (v := 3) (by decide) dL_1990 ?_
  refine sm_iadd C dL_1991 ?_
  refine sl_sld C X (hin 3 (by decide) (by decide)) dL_1992 ?_
  refine sl_callI (As := [.int (xs (nI i + 1).toNatClampNeg), .int (xs (nI i + 2).toNatClampNeg), .int (xs (nI i + 3).toNatClampNeg)]) (ny := 6) (fr' := 7) (lo' := 161) C cfX10_luck wl137 kd_79 rfl rfl rfl rfl rfl dL_1993 (mX10_luck e2) ?_
  exact sl_icmp_eq C dL_1996 (tgt := 2282) rfl (next _ R)
-- rate
theorem lq_k69 {G : Gx} {b L i : Nat} {xs : Nat → Int32} {w : HW} (C : Cx G code "SacredHensLaw" 4 15 560) (X : Lx G b L xs) (hin : ∀ j : Int32, 0 ≤ j → j ≤ 5 → vp_in (nI i + j) L) (H : Rel w) (next : ∀ w1, Rel w1 → Sm G () 2282 (LV G b i) [] w1 (some ())) : Sm G () 2001 (LV G b i) [] w (some ()) := by
  obtain ⟨r, w1, w2, e1, e2, R⟩ := ag_rate H (xs (nI i + 1).toNatClampNeg) (xs (nI i + 2).toNatClampNeg)
  refine sm_aload_n C 2 rfl dL_2001 rfl ?_
  refine sm_aload_n C 3 rfl dL_2002 rfl ?_
  refine sm_iload_n C 0 rfl dL_2003 rfl ?_
  refine sm_iconst C (v := 1) (by decide) dL_2004 ?_
  refine sm_iadd C dL_2005 ?_
  refine sl_sld C X (hin 1 (by decide) (by decide)) dL_2006 ?_
  refine sm_aload_n C 3 rfl dL_2007 rfl ?_
  refine sm_iload_n C 0 rfl dL_2008 rfl ?_
  refine sm_iconst C (v := 2) (by decide) dL_2009 ?_
  refine sm_iadd C dL_2010 ?_
  refine sl_sld C X (hin 2 (by decide) (by decide)) dL_2011 ?_
  refine sl_callI (As := [.int (xs (nI i + 1).toNatClampNeg), .int (xs (nI i + 2).toNatClampNeg)]) (ny := 4) (fr' := 1) (lo' := 21) C cfX9_rate wl138 kd_0 rfl rfl rfl rfl rfl dL_2012 (mX9_rate e1) ?_
  refine sm_aload_n C 1 rfl dL_2015 rfl ?_
  refine sm_aload_n C 3 rfl dL_2016 rfl ?_
  refine sm_iload_n C 0 rfl dL_2017 rfl ?_
  refine sm_iconst C (v := 1) (by decide) dL_2018 ?_
  refine sm_iadd C dL_2019 ?_
  refine sl_sld C X (hin 1 (by decide) (by decide)) dL_2020 ?_
  refine sm_aload_n C 3 rfl dL_2021 rfl ?_
  refine sm_iload_n C 0 rfl dL_2022 rfl ?_
  refine sm_iconst C (v := 2) (by decide) dL_2023 ?_
  refine sm_iadd C dL_2024 ?_
  refine sl_sld C X (hin 2 (by decide) (by decide)) dL_2025 ?_
  refine sl_callI (As := [.int (xs (nI i + 1).toNatClampNeg), .int (xs (nI i + 2).toNatClampNeg)]) (ny := 4) (fr' := 2) (lo' := 46) C cfX10_rate wl139 kd_79 rfl rfl rfl rfl rfl dL_2026 (mX10_rate e2) ?_
  exact sl_icmp_eq C dL_2029 (tgt := 2282) rfl (next _ R)
-- count
theorem lq_k70 {G : Gx} {b L i : Nat} {xs : Nat → Int32} {w : HW} (C : Cx G code "SacredHensLaw" 4 15 560) (X : Lx G b L xs) (hin : ∀ j : Int32, 0 ≤ j → j ≤ 5 → vp_in (nI i + j) L) (H : Rel w) (next : ∀ w1, Rel w1 → Sm G () 2282 (LV G b i) [] w1 (some ())) : Sm G () 2034 (LV G b i) [] w (some ()) := by
  obtain ⟨r, w1, w2, e1, e2, R⟩ := ag_count H (xs (nI i + 1).toNatClampNeg)
  obtain ⟨e1, f1⟩ := pu_some e1
  subst f1
  obtain ⟨e2, f2⟩ := pu_some e2
  subst f2
  refine sm_aload_n C 2 rfl dL_2034 rfl ?_
  refine sm_aload_n C 3 rfl dL_2035 rfl ?_
  refine sm_iload_n C 0 rfl dL_2036 rfl ?_
  refine sm_iconst C (v := 1) (by decide) dL_2037 ?_
  refine sm_iadd C dL_2038 ?_
  refine sl_sld C X (hin 1 (by decide) (by decide)) dL_2039 ?_
  refine sl_callI (As := [.int (xs (nI i + 1).toNatClampNeg)]) (ny := 2) (fr' := 2) (lo' := 42) C cfX9_count wl140 kd_0 rfl rfl rfl rfl rfl dL_2040 (mX9_count e1) ?_
  refine sm_aload_n C 1 rfl dL_2043 rfl ?_
  refine sm_aload_n C 3 rfl dL_2044 rfl ?_
  refine sm_iload_n C 0 rfl dL_2045 rfl ?_
  refine sm_iconst C (v := 1) (by decide) dL_2046 ?_
  refine sm_iadd C dL_2047 ?_
  refine sl_sld C X (hin 1 (by decide) (by decide)) dL_2048 ?_
  refine sl_callI (As := [.int (xs (nI i + 1).toNatClampNeg)]) (ny := 4) (fr' := 1) (lo' := 25) C cfX10_count wl141 kd_79 rfl rfl rfl rfl rfl dL_2049 (mX10_count e2) ?_
  exact sl_icmp_eq C dL_2052 (tgt := 2282) rfl (next _ R)
-- image
theorem lq_k71 {G : Gx} {b L i : Nat} {xs : Nat → Int32} {w : HW} (C : Cx G code "SacredHensLaw" 4 15 560) (X : Lx G b L xs) (hin : ∀ j : Int32, 0 ≤ j → j ≤ 5 → vp_in (nI i + j) L) (H : Rel w) (next : ∀ w1, Rel w1 → Sm G () 2282 (LV G b i) [] w1 (some ())) : Sm G () 2057 (LV G b i) [] w (some ()) := by
  obtain ⟨r, w1, w2, e1, e2, R⟩ := ag_image H (xs (nI i + 1).toNatClampNeg)
  refine sm_aload_n C 2 rfl dL_2057 rfl ?_
  refine sm_aload_n C 3 rfl dL_2058 rfl ?_
  refine sm_iload_n C 0 rfl dL_2059 rfl ?_
  refine sm_iconst C (v := 1) (by decide) dL_2060 ?_
  refine sm_iadd C dL_2061 ?_
  refine sl_sld C X (hin 1 (by decide) (by decide)) dL_2062 ?_
  refine sl_callI (As := [.int (xs (nI i + 1).toNatClampNeg)]) (ny := 2) (fr' := 2) (lo' := 89) C cfX9_image wl142 kd_0 rfl rfl rfl rfl rfl dL_2063 (mX9_image e1) ?_
  refine sm_aload_n C 1 rfl dL_2066 rfl ?_
  refine sm_aload_n C 3 rfl dL_2067 rfl ?_
  refine sm_iload_n C 0 rfl dL_2068 rfl ?_
  refine sm_iconst C (v := 1) (by decide) dL_2069 ?_
  refine sm_iadd C dL_2070 ?_
  refine sl_sld C X (hin 1 (by decide) (by decide)) dL_2071 ?_
  refine sl_callI (As := [.int (xs (nI i + 1).toNatClampNeg)]) (ny := 3) (fr' := 1) (lo' := 25) C cfX10_image wl143 kd_79 rfl rfl rfl rfl rfl dL_2072 (mX10_image e2) ?_
  exact sl_icmp_eq C dL_2075 (tgt := 2282) rfl (next _ R)
-- back
theorem lq_k72 {G : Gx} {b L i : Nat} {xs : Nat → Int32} {w : HW} (C : Cx G code "SacredHensLaw" 4 15 560) (X : Lx G b L xs) (hin : ∀ j : Int32, 0 ≤ j → j ≤ 5 → vp_in (nI i + j) L) (H : Rel w) (next : ∀ w1, Rel w1 → Sm G () 2282 (LV G b i) [] w1 (some ())) : Sm G () 2080 (LV G b i) [] w (some ()) := by
  obtain ⟨r, w1, w2, e1, e2, R⟩ := ag_back H (xs (nI i + 1).toNatClampNeg)
  refine sm_aload_n C 2 rfl dL_2080 rfl ?_
  refine sm_aload_n C 3 rfl dL_2081 rfl ?_
  refine sm_iload_n C 0 rfl dL_2082 rfl ?_
  refine sm_iconst C (v := 1) (by decide) dL_2083 ?_
  refine sm_iadd C dL_2084 ?_
  refine sl_sld C X (hin 1 (by decide) (by decide)) dL_2085 ?_
  refine sl_callI (As := [.int (xs (nI i + 1).toNatClampNeg)]) (ny := 2) (fr' := 2) (lo' := 89) C cfX9_back wl144 kd_0 rfl rfl rfl rfl rfl dL_2086 (mX9_back e1) ?_
  refine sm_aload_n C 1 rfl dL_2089 rfl ?_
  refine sm_aload_n C 3 rfl dL_2090 rfl ?_
  refine sm_iload_n C 0 rfl dL_2091 rfl ?_
  refine sm_iconst C (v := 1) (by decide) dL_2092 ?_
  refine sm_iadd C dL_2093 ?_
  refine sl_sld C X (hin 1 (by decide) (by decide)) dL_2094 ?_
  refine sl_callI (As := [.int (xs (nI i + 1).toNatClampNeg)]) (ny := 3) (fr' := 1) (lo' := 25) C cfX10_back wl145 kd_79 rfl rfl rfl rfl rfl dL_2095 (mX10_back e2) ?_
  exact sl_icmp_eq C dL_2098 (tgt := 2282) rfl (next _ R)
-- row
theorem lq_k73 {G : Gx} {b L i : Nat} {xs : Nat → Int32} {w : HW} (C : Cx G code "SacredHensLaw" 4 15 560) (X : Lx G b L xs) (hin : ∀ j : Int32, 0 ≤ j → j ≤ 5 → vp_in (nI i + j) L) (H : Rel w) (next : ∀ w1, Rel w1 → Sm G () 2282 (LV G b i) [] w1 (some ())) : Sm G () 2103 (LV G b i) [] w (some ()) := by
  obtain ⟨r, w1, w2, e1, e2, R⟩ := ag_row H (xs (nI i + 1).toNatClampNeg) (xs (nI i + 2).toNatClampNeg) (xs (nI i + 3).toNatClampNeg)
  refine sm_aload_n C 2 rfl dL_2103 rfl ?_
  refine sm_aload_n C 3 rfl dL_2104 rfl ?_
  refine sm_iload_n C 0 rfl dL_2105 rfl ?_
  refine sm_iconst C (v := 1) (by decide) dL_2106 ?_
  refine sm_iadd C dL_2107 ?_
  refine sl_sld C X (hin 1 (by decide) (by decide)) dL_2108 ?_
  refine sm_aload_n C 3 rfl dL_2109 rfl ?_
  refine sm_iload_n C 0 rfl dL_2110 rfl ?_
  refine sm_iconst C (v := 2) (by decide) dL_2111 ?_
  refine sm_iadd C dL_2112 ?_
  refine sl_sld C X (hin 2 (by decide) (by decide)) dL_2113 ?_
  refine sm_aload_n C 3 rfl dL_2114 rfl ?_
  refine sm_iload_n C 0 rfl dL_2115 rfl ?_
  refine sm_iconst C (v := 3) (by decide) dL_2116 ?_
  refine sm_iadd C dL_2117 ?_
  refine sl_sld C X (hin 3 (by decide) (by decide)) dL_2118 ?_
  refine sl_callI (As := [.int (xs (nI i + 1).toNatClampNeg), .int (xs (nI i + 2).toNatClampNeg), .int (xs (nI i + 3).toNatClampNeg)]) (ny := 4) (fr' := 1) (lo' := 23) C cfX9_row wl146 kd_0 rfl rfl rfl rfl rfl dL_2119 (mX9_row e1) ?_
  refine sm_aload_n C 1 rfl dL_2122 rfl ?_
  refine sm_aload_n C 3 rfl dL_2123 rfl ?_
  refine sm_iload_n C 0 rfl dL_2124 rfl ?_
  refine sm_iconst C (v := 1) (by decide) dL_2125 ?_
  refine sm_iadd C dL_2126 ?_
  refine sl_sld C X (hin 1 (by decide) (by decide)) dL_2127 ?_
  refine sm_aload_n C 3 rfl dL_2128 rfl ?_
  refine sm_iload_n C 0 rfl dL_2129 rfl ?_
  refine sm_iconst C (v := 2) (by decide) dL_2130 ?_
  refine sm_iadd C dL_2131 ?_
  refine sl_sld C X (hin 2 (by decide) (by decide)) dL_2132 ?_
  refine sm_aload_n C 3 rfl dL_2133 rfl ?_
  refine sm_iload_n C 0 rfl dL_2134 rfl ?_
  refine sm_iconst C (v := 3) (by decide) dL_2135 ?_
  refine sm_iadd C dL_2136 ?_
  refine sl_sld C X (hin 3 (by decide) (by decide)) dL_2137 ?_
  refine sl_callI (As := [.int (xs (nI i + 1).toNatClampNeg), .int (xs (nI i + 2).toNatClampNeg), .int (xs (nI i + 3).toNatClampNeg)]) (ny := 5) (fr' := 2) (lo' := 45) C cfX10_row wl147 kd_79 rfl rfl rfl rfl rfl dL_2138 (mX10_row e2) ?_
  exact sl_icmp_eq C dL_2141 (tgt := 2282) rfl (next _ R)
-- write
theorem lq_k74 {G : Gx} {b L i : Nat} {xs : Nat → Int32} {w : HW} (C : Cx G code "SacredHensLaw" 4 15 560) (X : Lx G b L xs) (hin : ∀ j : Int32, 0 ≤ j → j ≤ 5 → vp_in (nI i + j) L) (H : Rel w) (next : ∀ w1, Rel w1 → Sm G () 2282 (LV G b i) [] w1 (some ())) : Sm G () 2146 (LV G b i) [] w (some ()) := by
  obtain ⟨r, w1, w2, e1, e2, R⟩ := ag_write H (xs (nI i + 1).toNatClampNeg) (xs (nI i + 2).toNatClampNeg) ((lSl ((xs (nI i + 3).toNatClampNeg).toInt64) 32) ||| (((xs (nI i + 4).toNatClampNeg).toInt64) &&& 4294967295))
  refine sm_aload_n C 2 rfl dL_2146 rfl ?_
  refine sm_aload_n C 3 rfl dL_2147 rfl ?_
  refine sm_iload_n C 0 rfl dL_2148 rfl ?_
  refine sm_iconst C (v := 1) (by decide) dL_2149 ?_
  refine sm_iadd C dL_2150 ?_
  refine sl_sld C X (hin 1 (by decide) (by decide)) dL_2151 ?_
  refine sm_aload_n C 3 rfl dL_2152 rfl ?_
  refine sm_iload_n C 0 rfl dL_2153 rfl ?_
  refine sm_iconst C (v := 2) (by decide) dL_2154 ?_
  refine sm_iadd C dL_2155 ?_
  refine sl_sld C X (hin 2 (by decide) (by decide)) dL_2156 ?_
  refine sm_aload_n C 3 rfl dL_2157 rfl ?_
  refine sm_iload_n C 0 rfl dL_2158 rfl ?_
  refine sm_iconst C (v := 3) (by decide) dL_2159 ?_
  refine sm_iadd C dL_2160 ?_
  refine sl_sld C X (hin 3 (by decide) (by decide)) dL_2161 ?_
  refine sm_i2l C dL_2162 ?_
  refine sm_bipush C (v := 32) (by decide) dL_2163 ?_
  refine sm_lshl C dL_2165 ?_
  refine sm_aload_n C 3 rfl dL_2166 rfl ?_
  refine sm_iload_n C 0 rfl dL_2167 rfl ?_
  refine sm_iconst C (v := 4) (by decide) dL_2168 ?_
  refine sm_iadd C dL_2169 ?_
  refine sl_sld C X (hin 4 (by decide) (by decide)) dL_2170 ?_
  refine sm_i2l C dL_2171 ?_
  refine sm_ldc2 C wl148 dL_2172 ?_
  refine sm_land C dL_2175 ?_
  refine sm_lor C dL_2176 ?_
  refine sl_callI (As := [.int (xs (nI i + 1).toNatClampNeg), .int (xs (nI i + 2).toNatClampNeg), .long ((lSl ((xs (nI i + 3).toNatClampNeg).toInt64) 32) ||| (((xs (nI i + 4).toNatClampNeg).toInt64) &&& 4294967295))]) (ny := 6) (fr' := 1) (lo' := 22) C cfX9_write wl149 kd_0 rfl rfl rfl rfl rfl dL_2177 (mX9_write e1) ?_
  refine sm_aload_n C 1 rfl dL_2180 rfl ?_
  refine sm_aload_n C 3 rfl dL_2181 rfl ?_
  refine sm_iload_n C 0 rfl dL_2182 rfl ?_
  refine sm_iconst C (v := 1) (by decide) dL_2183 ?_
  refine sm_iadd C dL_2184 ?_
  refine sl_sld C X (hin 1 (by decide) (by decide)) dL_2185 ?_
  refine sm_aload_n C 3 rfl dL_2186 rfl ?_
  refine sm_iload_n C 0 rfl dL_2187 rfl ?_
  refine sm_iconst C (v := 2) (by decide) dL_2188 ?_
  refine sm_iadd C dL_2189 ?_
  refine sl_sld C X (hin 2 (by decide) (by decide)) dL_2190 ?_
  refine sm_aload_n C 3 rfl dL_2191 rfl ?_
  refine sm_iload_n C 0 rfl dL_2192 rfl ?_
  refine sm_iconst C (v := 3) (by decide) dL_2193 ?_
  refine sm_iadd C dL_2194 ?_
  refine sl_sld C X (hin 3 (by decide) (by decide)) dL_2195 ?_
  refine sm_i2l C dL_2196 ?_
  refine sm_bipush C (v := 32) (by decide) dL_2197 ?_
  refine sm_lshl C dL_2199 ?_
  refine sm_aload_n C 3 rfl dL_2200 rfl ?_
  refine sm_iload_n C 0 rfl dL_2201 rfl ?_
  refine sm_iconst C (v := 4) (by decide) dL_2202 ?_
  refine sm_iadd C dL_2203 ?_
  refine sl_sld C X (hin 4 (by decide) (by decide)) dL_2204 ?_
  refine sm_i2l C dL_2205 ?_
  refine sm_ldc2 C wl148 dL_2206 ?_
  refine sm_land C dL_2209 ?_
  refine sm_lor C dL_2210 ?_
  refine sl_callI (As := [.int (xs (nI i + 1).toNatClampNeg), .int (xs (nI i + 2).toNatClampNeg), .long ((lSl ((xs (nI i + 3).toNatClampNeg).toInt64) 32) ||| (((xs (nI i + 4).toNatClampNeg).toInt64) &&& 4294967295))]) (ny := 5) (fr' := 2) (lo' := 45) C cfX10_write wl150 kd_79 rfl rfl rfl rfl rfl dL_2211 (mX10_write e2) ?_
  exact sl_icmp_eq C dL_2214 (tgt := 2282) rfl (next _ R)
-- paste
theorem lq_k75 {G : Gx} {b L i : Nat} {xs : Nat → Int32} {w : HW} (C : Cx G code "SacredHensLaw" 4 15 560) (X : Lx G b L xs) (hin : ∀ j : Int32, 0 ≤ j → j ≤ 5 → vp_in (nI i + j) L) (H : Rel w) (next : ∀ w1, Rel w1 → Sm G () 2282 (LV G b i) [] w1 (some ())) : Sm G () 2219 (LV G b i) [] w (some ()) := by
  obtain ⟨r, w1, w2, e1, e2, R⟩ := ag_paste H (xs (nI i + 1).toNatClampNeg) (xs (nI i + 2).toNatClampNeg) (xs (nI i + 3).toNatClampNeg) (xs (nI i + 4).toNatClampNeg) (xs (nI i + 5).toNatClampNeg)
  refine sm_aload_n C 2 rfl dL_2219 rfl ?_
  refine sm_aload_n C 3 rfl dL_2220 rfl ?_
  refine sm_iload_n C 0 rfl dL_2221 rfl ?_
  refine sm_iconst C (v := 1) (by decide) dL_2222 ?_
  refine sm_iadd C dL_2223 ?_
  refine sl_sld C X (hin 1 (by decide) (by decide)) dL_2224 ?_
  refine sm_aload_n C 3 rfl dL_2225 rfl ?_
  refine sm_iload_n C 0 rfl dL_2226 rfl ?_
  refine sm_iconst C (v := 2) (by decide) dL_2227 ?_
  refine sm_iadd C dL_2228 ?_
  refine sl_sld C X (hin 2 (by decide) (by decide)) dL_2229 ?_
  refine sm_aload_n C 3 rfl dL_2230 rfl ?_
  refine sm_iload_n C 0 rfl dL_2231 rfl ?_
  refine sm_iconst C (v := 3) (by decide) dL_2232 ?_
  refine sm_iadd C dL_2233 ?_
  refine sl_sld C X (hin 3 (by decide) (by decide)) dL_2234 ?_
  refine sm_aload_n C 3 rfl dL_2235 rfl ?_
  refine sm_iload_n C 0 rfl dL_2236 rfl ?_
  refine sm_iconst C (v := 4) (by decide) dL_2237 ?_
  refine sm_iadd C dL_2238 ?_
  refine sl_sld C X (hin 4 (by decide) (by decide)) dL_2239 ?_
  refine sm_aload_n C 3 rfl dL_2240 rfl ?_
  refine sm_iload_n C 0 rfl dL_2241 rfl ?_
  refine sm_iconst C (v := 5) (by decide) dL_2242 ?_
  refine sm_iadd C dL_2243 ?_
  refine sl_sld C X (hin 5 (by decide) (by decide)) dL_2244 ?_
  refine sl_callI (As := [.int (xs (nI i + 1).toNatClampNeg), .int (xs (nI i + 2).toNatClampNeg), .int (xs (nI i + 3).toNatClampNeg), .int (xs (nI i + 4).toNatClampNeg), .int (xs (nI i + 5).toNatClampNeg)]) (ny := 8) (fr' := 1) (lo' := 68) C cfX9_paste wl151 kd_0 rfl rfl rfl rfl rfl dL_2245 (mX9_paste e1) ?_
  refine sm_aload_n C 1 rfl dL_2248 rfl ?_
  refine sm_aload_n C 3 rfl dL_2249 rfl ?_
  refine sm_iload_n C 0 rfl dL_2250 rfl ?_
  refine sm_iconst C (v := 1) (by decide) dL_2251 ?_
  refine sm_iadd C dL_2252 ?_
  refine sl_sld C X (hin 1 (by decide) (by decide)) dL_2253 ?_
  refine sm_aload_n C 3 rfl dL_2254 rfl ?_
  refine sm_iload_n C 0 rfl dL_2255 rfl ?_
  refine sm_iconst C (v := 2) (by decide) dL_2256 ?_
  refine sm_iadd C dL_2257 ?_
  refine sl_sld C X (hin 2 (by decide) (by decide)) dL_2258 ?_
  refine sm_aload_n C 3 rfl dL_2259 rfl ?_
  refine sm_iload_n C 0 rfl dL_2260 rfl ?_
  refine sm_iconst C (v := 3) (by decide) dL_2261 ?_
  refine sm_iadd C dL_2262 ?_
  refine sl_sld C X (hin 3 (by decide) (by decide)) dL_2263 ?_
  refine sm_aload_n C 3 rfl dL_2264 rfl ?_
  refine sm_iload_n C 0 rfl dL_2265 rfl ?_
  refine sm_iconst C (v := 4) (by decide) dL_2266 ?_
  refine sm_iadd C dL_2267 ?_
  refine sl_sld C X (hin 4 (by decide) (by decide)) dL_2268 ?_
  refine sm_aload_n C 3 rfl dL_2269 rfl ?_
  refine sm_iload_n C 0 rfl dL_2270 rfl ?_
  refine sm_iconst C (v := 5) (by decide) dL_2271 ?_
  refine sm_iadd C dL_2272 ?_
  refine sl_sld C X (hin 5 (by decide) (by decide)) dL_2273 ?_
  refine sl_callI (As := [.int (xs (nI i + 1).toNatClampNeg), .int (xs (nI i + 2).toNatClampNeg), .int (xs (nI i + 3).toNatClampNeg), .int (xs (nI i + 4).toNatClampNeg), .int (xs (nI i + 5).toNatClampNeg)]) (ny := 7) (fr' := 2) (lo' := 45) C cfX10_paste wl152 kd_79 rfl rfl rfl rfl rfl dL_2274 (mX10_paste e2) ?_
  exact sl_icmp_eq C dL_2277 (tgt := 2282) rfl (next _ R)
theorem lq_all {G : Gx} {b L i k : Nat} {xs : Nat → Int32} {w : HW} {x : Int32} (C : Cx G code "SacredHensLaw" 4 15 560) (X : Lx G b L xs) (hin : ∀ j : Int32, 0 ≤ j → j ≤ 5 → vp_in (nI i + j) L) (H : Rel w) (next : ∀ w1, Rel w1 → Sm G () 2282 (LV G b i) [] w1 (some ())) (hk : x.toInt = (k : Int)) (h76 : k < 76) : Sm G () 33 (LV G b i) [.int x] w (some ()) := by
  rcases Nat.lt_or_ge k 38 with h | h
  · rcases Nat.lt_or_ge k 19 with h | h
    · rcases Nat.lt_or_ge k 9 with h | h
      · rcases Nat.lt_or_ge k 4 with h | h
        · rcases Nat.lt_or_ge k 2 with h | h
          · rcases Nat.lt_or_ge k 1 with h | h
            · obtain rfl : k = 0 := by omega
              exact sl_tab C hk (by decide) dL_33 (tgt := 352) rfl rfl (lq_k0 C X hin H next)
            · obtain rfl : k = 1 := by omega
              exact sl_tab C hk (by decide) dL_33 (tgt := 415) rfl rfl (lq_k1 C X hin H next)
          · rcases Nat.lt_or_ge k 3 with h | h
            · obtain rfl : k = 2 := by omega
              exact sl_tab C hk (by decide) dL_33 (tgt := 438) rfl rfl (lq_k2 C X hin H next)
            · obtain rfl : k = 3 := by omega
              exact sl_tab C hk (by decide) dL_33 (tgt := 451) rfl rfl (lq_k3 C X hin H next)
        · rcases Nat.lt_or_ge k 6 with h | h
          · rcases Nat.lt_or_ge k 5 with h | h
            · obtain rfl : k = 4 := by omega
              exact sl_tab C hk (by decide) dL_33 (tgt := 474) rfl rfl (lq_k4 C X hin H next)
            · obtain rfl : k = 5 := by omega
              exact sl_tab C hk (by decide) dL_33 (tgt := 507) rfl rfl (lq_k5 C X hin H next)
          · rcases Nat.lt_or_ge k 7 with h | h
            · obtain rfl : k = 6 := by omega
              exact sl_tab C hk (by decide) dL_33 (tgt := 540) rfl rfl (lq_k6 C X hin H next)
            · rcases Nat.lt_or_ge k 8 with h | h
              · obtain rfl : k = 7 := by omega
                exact sl_tab C hk (by decide) dL_33 (tgt := 553) rfl rfl (lq_k7 C X hin H next)
              · obtain rfl : k = 8 := by omega
                exact sl_tab C hk (by decide) dL_33 (tgt := 576) rfl rfl (lq_k8 C X hin H next)
      · rcases Nat.lt_or_ge k 14 with h | h
        · rcases Nat.lt_or_ge k 11 with h | h
          · rcases Nat.lt_or_ge k 10 with h | h
            · obtain rfl : k = 9 := by omega
              exact sl_tab C hk (by decide) dL_33 (tgt := 599) rfl rfl (lq_k9 C X hin H next)
            · obtain rfl : k = 10 := by omega
              exact sl_tab C hk (by decide) dL_33 (tgt := 622) rfl rfl (lq_k10 C X hin H next)
          · rcases Nat.lt_or_ge k 12 with h | h
            · obtain rfl : k = 11 := by omega
              exact sl_tab C hk (by decide) dL_33 (tgt := 635) rfl rfl (lq_k11 C X hin H next)
            · rcases Nat.lt_or_ge k 13 with h | h
              · obtain rfl : k = 12 := by omega
                exact sl_tab C hk (by decide) dL_33 (tgt := 658) rfl rfl (lq_k12 C X hin H next)
              · obtain rfl : k = 13 := by omega
                exact sl_tab C hk (by decide) dL_33 (tgt := 681) rfl rfl (lq_k13 C X hin H next)
        · rcases Nat.lt_or_ge k 16 with h | h
          · rcases Nat.lt_or_ge k 15 with h | h
            · obtain rfl : k = 14 := by omega
              exact sl_tab C hk (by decide) dL_33 (tgt := 694) rfl rfl (lq_k14 C X hin H next)
            · obtain rfl : k = 15 := by omega
              exact sl_tab C hk (by decide) dL_33 (tgt := 707) rfl rfl (lq_k15 C X hin H next)
          · rcases Nat.lt_or_ge k 17 with h | h
            · obtain rfl : k = 16 := by omega
              exact sl_tab C hk (by decide) dL_33 (tgt := 720) rfl rfl (lq_k16 C X hin H next)
            · rcases Nat.lt_or_ge k 18 with h | h
              · obtain rfl : k = 17 := by omega
                exact sl_tab C hk (by decide) dL_33 (tgt := 743) rfl rfl (lq_k17 C X hin H next)
              · obtain rfl : k = 18 := by omega
                exact sl_tab C hk (by decide) dL_33 (tgt := 766) rfl rfl (lq_k18 C X hin H next)
    · rcases Nat.lt_or_ge k 28 with h | h
      · rcases Nat.lt_or_ge k 23 with h | h
        · rcases Nat.lt_or_ge k 21 with h | h
          · rcases Nat.lt_or_ge k 20 with h | h
            · obtain rfl : k = 19 := by omega
              exact sl_tab C hk (by decide) dL_33 (tgt := 789) rfl rfl (lq_k19 C X hin H next)
            · obtain rfl : k = 20 := by omega
              exact sl_tab C hk (by decide) dL_33 (tgt := 812) rfl rfl (lq_k20 C X hin H next)
          · rcases Nat.lt_or_ge k 22 with h | h
            · obtain rfl : k = 21 := by omega
              exact sl_tab C hk (by decide) dL_33 (tgt := 835) rfl rfl (lq_k21 C X hin H next)
            · obtain rfl : k = 22 := by omega
              exact sl_tab C hk (by decide) dL_33 (tgt := 858) rfl rfl (lq_k22 C X hin H next)
        · rcases Nat.lt_or_ge k 25 with h | h
          · rcases Nat.lt_or_ge k 24 with h | h
            · obtain rfl : k = 23 := by omega
              exact sl_tab C hk (by decide) dL_33 (tgt := 891) rfl rfl (lq_k23 C X hin H next)
            · obtain rfl : k = 24 := by omega
              exact sl_tab C hk (by decide) dL_33 (tgt := 914) rfl rfl (lq_k24 C X hin H next)
          · rcases Nat.lt_or_ge k 26 with h | h
            · obtain rfl : k = 25 := by omega
              exact sl_tab C hk (by decide) dL_33 (tgt := 937) rfl rfl (lq_k25 C X hin H next)
            · rcases Nat.lt_or_ge k 27 with h | h
              · obtain rfl : k = 26 := by omega
                exact sl_tab C hk (by decide) dL_33 (tgt := 960) rfl rfl (lq_k26 C X hin H next)
              · obtain rfl : k = 27 := by omega
                exact sl_tab C hk (by decide) dL_33 (tgt := 983) rfl rfl (lq_k27 C X hin H next)
      · rcases Nat.lt_or_ge k 33 with h | h
        · rcases Nat.lt_or_ge k 30 with h | h
          · rcases Nat.lt_or_ge k 29 with h | h
            · obtain rfl : k = 28 := by omega
              exact sl_tab C hk (by decide) dL_33 (tgt := 996) rfl rfl (lq_k28 C X hin H next)
            · obtain rfl : k = 29 := by omega
              exact sl_tab C hk (by decide) dL_33 (tgt := 1019) rfl rfl (lq_k29 C X hin H next)
          · rcases Nat.lt_or_ge k 31 with h | h
            · obtain rfl : k = 30 := by omega
              exact sl_tab C hk (by decide) dL_33 (tgt := 1042) rfl rfl (lq_k30 C X hin H next)
            · rcases Nat.lt_or_ge k 32 with h | h
              · obtain rfl : k = 31 := by omega
                exact sl_tab C hk (by decide) dL_33 (tgt := 1055) rfl rfl (lq_k31 C X hin H next)
              · obtain rfl : k = 32 := by omega
                exact sl_tab C hk (by decide) dL_33 (tgt := 1078) rfl rfl (lq_k32 C X hin H next)
        · rcases Nat.lt_or_ge k 35 with h | h
          · rcases Nat.lt_or_ge k 34 with h | h
            · obtain rfl : k = 33 := by omega
              exact sl_tab C hk (by decide) dL_33 (tgt := 1101) rfl rfl (lq_k33 C X hin H next)
            · obtain rfl : k = 34 := by omega
              exact sl_tab C hk (by decide) dL_33 (tgt := 1124) rfl rfl (lq_k34 C X hin H next)
          · rcases Nat.lt_or_ge k 36 with h | h
            · obtain rfl : k = 35 := by omega
              exact sl_tab C hk (by decide) dL_33 (tgt := 1147) rfl rfl (lq_k35 C X hin H next)
            · rcases Nat.lt_or_ge k 37 with h | h
              · obtain rfl : k = 36 := by omega
                exact sl_tab C hk (by decide) dL_33 (tgt := 1170) rfl rfl (lq_k36 C X hin H next)
              · obtain rfl : k = 37 := by omega
                exact sl_tab C hk (by decide) dL_33 (tgt := 1193) rfl rfl (lq_k37 C X hin H next)
  · rcases Nat.lt_or_ge k 57 with h | h
    · rcases Nat.lt_or_ge k 47 with h | h
      · rcases Nat.lt_or_ge k 42 with h | h
        · rcases Nat.lt_or_ge k 40 with h | h
          · rcases Nat.lt_or_ge k 39 with h | h
            · obtain rfl : k = 38 := by omega
              exact sl_tab C hk (by decide) dL_33 (tgt := 1216) rfl rfl (lq_k38 C X hin H next)
            · obtain rfl : k = 39 := by omega
              exact sl_tab C hk (by decide) dL_33 (tgt := 1239) rfl rfl (lq_k39 C X hin H next)
          · rcases Nat.lt_or_ge k 41 with h | h
            · obtain rfl : k = 40 := by omega
              exact sl_tab C hk (by decide) dL_33 (tgt := 1272) rfl rfl (lq_k40 C X hin H next)
            · obtain rfl : k = 41 := by omega
              exact sl_tab C hk (by decide) dL_33 (tgt := 1295) rfl rfl (lq_k41 C X hin H next)
        · rcases Nat.lt_or_ge k 44 with h | h
          · rcases Nat.lt_or_ge k 43 with h | h
            · obtain rfl : k = 42 := by omega
              exact sl_tab C hk (by decide) dL_33 (tgt := 1318) rfl rfl (lq_k42 C X hin H next)
            · obtain rfl : k = 43 := by omega
              exact sl_tab C hk (by decide) dL_33 (tgt := 1341) rfl rfl (lq_k43 C X hin H next)
          · rcases Nat.lt_or_ge k 45 with h | h
            · obtain rfl : k = 44 := by omega
              exact sl_tab C hk (by decide) dL_33 (tgt := 1364) rfl rfl (lq_k44 C X hin H next)
            · rcases Nat.lt_or_ge k 46 with h | h
              · obtain rfl : k = 45 := by omega
                exact sl_tab C hk (by decide) dL_33 (tgt := 1387) rfl rfl (lq_k45 C X hin H next)
              · obtain rfl : k = 46 := by omega
                exact sl_tab C hk (by decide) dL_33 (tgt := 1400) rfl rfl (lq_k46 C X hin H next)
      · rcases Nat.lt_or_ge k 52 with h | h
        · rcases Nat.lt_or_ge k 49 with h | h
          · rcases Nat.lt_or_ge k 48 with h | h
            · obtain rfl : k = 47 := by omega
              exact sl_tab C hk (by decide) dL_33 (tgt := 1423) rfl rfl (lq_k47 C X hin H next)
            · obtain rfl : k = 48 := by omega
              exact sl_tab C hk (by decide) dL_33 (tgt := 1436) rfl rfl (lq_k48 C X hin H next)
          · rcases Nat.lt_or_ge k 50 with h | h
            · obtain rfl : k = 49 := by omega
              exact sl_tab C hk (by decide) dL_33 (tgt := 1459) rfl rfl (lq_k49 C X hin H next)
            · rcases Nat.lt_or_ge k 51 with h | h
              · obtain rfl : k = 50 := by omega
                exact sl_tab C hk (by decide) dL_33 (tgt := 1482) rfl rfl (lq_k50 C X hin H next)
              · obtain rfl : k = 51 := by omega
                exact sl_tab C hk (by decide) dL_33 (tgt := 1505) rfl rfl (lq_k51 C X hin H next)
        · rcases Nat.lt_or_ge k 54 with h | h
          · rcases Nat.lt_or_ge k 53 with h | h
            · obtain rfl : k = 52 := by omega
              exact sl_tab C hk (by decide) dL_33 (tgt := 1528) rfl rfl (lq_k52 C X hin H next)
            · obtain rfl : k = 53 := by omega
              exact sl_tab C hk (by decide) dL_33 (tgt := 1551) rfl rfl (lq_k53 C X hin H next)
          · rcases Nat.lt_or_ge k 55 with h | h
            · obtain rfl : k = 54 := by omega
              exact sl_tab C hk (by decide) dL_33 (tgt := 1574) rfl rfl (lq_k54 C X hin H next)
            · rcases Nat.lt_or_ge k 56 with h | h
              · obtain rfl : k = 55 := by omega
                exact sl_tab C hk (by decide) dL_33 (tgt := 1597) rfl rfl (lq_k55 C X hin H next)
              · obtain rfl : k = 56 := by omega
                exact sl_tab C hk (by decide) dL_33 (tgt := 1620) rfl rfl (lq_k56 C X hin H next)
    · rcases Nat.lt_or_ge k 66 with h | h
      · rcases Nat.lt_or_ge k 61 with h | h
        · rcases Nat.lt_or_ge k 59 with h | h
          · rcases Nat.lt_or_ge k 58 with h | h
            · obtain rfl : k = 57 := by omega
              exact sl_tab C hk (by decide) dL_33 (tgt := 1663) rfl rfl (lq_k57 C X hin H next)
            · obtain rfl : k = 58 := by omega
              exact sl_tab C hk (by decide) dL_33 (tgt := 1697) rfl rfl (lq_k58 C X hin H next)
          · rcases Nat.lt_or_ge k 60 with h | h
            · obtain rfl : k = 59 := by omega
              exact sl_tab C hk (by decide) dL_33 (tgt := 1740) rfl rfl (lq_k59 C X hin H next)
            · obtain rfl : k = 60 := by omega
              exact sl_tab C hk (by decide) dL_33 (tgt := 1763) rfl rfl (lq_k60 C X hin H next)
        · rcases Nat.lt_or_ge k 63 with h | h
          · rcases Nat.lt_or_ge k 62 with h | h
            · obtain rfl : k = 61 := by omega
              exact sl_tab C hk (by decide) dL_33 (tgt := 1796) rfl rfl (lq_k61 C X hin H next)
            · obtain rfl : k = 62 := by omega
              exact sl_tab C hk (by decide) dL_33 (tgt := 1819) rfl rfl (lq_k62 C X hin H next)
          · rcases Nat.lt_or_ge k 64 with h | h
            · obtain rfl : k = 63 := by omega
              exact sl_tab C hk (by decide) dL_33 (tgt := 1843) rfl rfl (lq_k63 C X hin H next)
            · rcases Nat.lt_or_ge k 65 with h | h
              · obtain rfl : k = 64 := by omega
                exact sl_tab C hk (by decide) dL_33 (tgt := 1876) rfl rfl (lq_k64 C X hin H next)
              · obtain rfl : k = 65 := by omega
                exact sl_tab C hk (by decide) dL_33 (tgt := 1899) rfl rfl (lq_k65 C X hin H next)
      · rcases Nat.lt_or_ge k 71 with h | h
        · rcases Nat.lt_or_ge k 68 with h | h
          · rcases Nat.lt_or_ge k 67 with h | h
            · obtain rfl : k = 66 := by omega
              exact sl_tab C hk (by decide) dL_33 (tgt := 1912) rfl rfl (lq_k66 C X hin H next)
            · obtain rfl : k = 67 := by omega
              exact sl_tab C hk (by decide) dL_33 (tgt := 1925) rfl rfl (lq_k67 C X hin H next)
          · rcases Nat.lt_or_ge k 69 with h | h
            · obtain rfl : k = 68 := by omega
              exact sl_tab C hk (by decide) dL_33 (tgt := 1958) rfl rfl (lq_k68 C X hin H next)
            · rcases Nat.lt_or_ge k 70 with h | h
              · obtain rfl : k = 69 := by omega
                exact sl_tab C hk (by decide) dL_33 (tgt := 2001) rfl rfl (lq_k69 C X hin H next)
              · obtain rfl : k = 70 := by omega
                exact sl_tab C hk (by decide) dL_33 (tgt := 2034) rfl rfl (lq_k70 C X hin H next)
        · rcases Nat.lt_or_ge k 73 with h | h
          · rcases Nat.lt_or_ge k 72 with h | h
            · obtain rfl : k = 71 := by omega
              exact sl_tab C hk (by decide) dL_33 (tgt := 2057) rfl rfl (lq_k71 C X hin H next)
            · obtain rfl : k = 72 := by omega
              exact sl_tab C hk (by decide) dL_33 (tgt := 2080) rfl rfl (lq_k72 C X hin H next)
          · rcases Nat.lt_or_ge k 74 with h | h
            · obtain rfl : k = 73 := by omega
              exact sl_tab C hk (by decide) dL_33 (tgt := 2103) rfl rfl (lq_k73 C X hin H next)
            · rcases Nat.lt_or_ge k 75 with h | h
              · obtain rfl : k = 74 := by omega
                exact sl_tab C hk (by decide) dL_33 (tgt := 2146) rfl rfl (lq_k74 C X hin H next)
              · obtain rfl : k = 75 := by omega
                exact sl_tab C hk (by decide) dL_33 (tgt := 2219) rfl rfl (lq_k75 C X hin H next)
