-- the law: its decode rows and cases, by program (wip/gen/gen_cases.py)
theorem dL_law_462 : decode cL_law 462 = .ok (.aload_n 1, 1) := by decide +kernel
theorem dL_law_463 : decode cL_law 463 = .ok (.aload_n 0, 1) := by decide +kernel
theorem dL_law_464 : decode cL_law 464 = .ok (.iload_n 3, 1) := by decide +kernel
theorem dL_law_465 : decode cL_law 465 = .ok (.iconst 1, 1) := by decide +kernel
theorem dL_law_466 : decode cL_law 466 = .ok (.iadd, 1) := by decide +kernel
theorem dL_law_467 : decode cL_law 467 = .ok (.iaload, 1) := by decide +kernel
theorem dL_law_468 : decode cL_law 468 = .ok (.aload_n 0, 1) := by decide +kernel
theorem dL_law_469 : decode cL_law 469 = .ok (.iload_n 3, 1) := by decide +kernel
theorem dL_law_470 : decode cL_law 470 = .ok (.iconst 2, 1) := by decide +kernel
theorem dL_law_471 : decode cL_law 471 = .ok (.iadd, 1) := by decide +kernel
theorem dL_law_472 : decode cL_law 472 = .ok (.iaload, 1) := by decide +kernel
theorem dL_law_473 : decode cL_law 473 = .ok (.invokevirtual 66, 3) := by decide +kernel
theorem dL_law_476 : decode cL_law 476 = .ok (.aload_n 2, 1) := by decide +kernel
theorem dL_law_477 : decode cL_law 477 = .ok (.aload_n 0, 1) := by decide +kernel
theorem dL_law_478 : decode cL_law 478 = .ok (.iload_n 3, 1) := by decide +kernel
theorem dL_law_479 : decode cL_law 479 = .ok (.iconst 1, 1) := by decide +kernel
theorem dL_law_480 : decode cL_law 480 = .ok (.iadd, 1) := by decide +kernel
theorem dL_law_481 : decode cL_law 481 = .ok (.iaload, 1) := by decide +kernel
theorem dL_law_482 : decode cL_law 482 = .ok (.aload_n 0, 1) := by decide +kernel
theorem dL_law_483 : decode cL_law 483 = .ok (.iload_n 3, 1) := by decide +kernel
theorem dL_law_484 : decode cL_law 484 = .ok (.iconst 2, 1) := by decide +kernel
theorem dL_law_485 : decode cL_law 485 = .ok (.iadd, 1) := by decide +kernel
theorem dL_law_486 : decode cL_law 486 = .ok (.iaload, 1) := by decide +kernel
theorem dL_law_487 : decode cL_law 487 = .ok (.invokevirtual 69, 3) := by decide +kernel
theorem dL_law_490 : decode cL_law 490 = .ok (.if_icmp .eq 262, 3) := by decide +kernel
theorem dL_law_495 : decode cL_law 495 = .ok (.aload_n 1, 1) := by decide +kernel
theorem dL_law_496 : decode cL_law 496 = .ok (.aload_n 0, 1) := by decide +kernel
theorem dL_law_497 : decode cL_law 497 = .ok (.iload_n 3, 1) := by decide +kernel
theorem dL_law_498 : decode cL_law 498 = .ok (.iconst 1, 1) := by decide +kernel
theorem dL_law_499 : decode cL_law 499 = .ok (.iadd, 1) := by decide +kernel
theorem dL_law_500 : decode cL_law 500 = .ok (.iaload, 1) := by decide +kernel
theorem dL_law_501 : decode cL_law 501 = .ok (.aload_n 0, 1) := by decide +kernel
theorem dL_law_502 : decode cL_law 502 = .ok (.iload_n 3, 1) := by decide +kernel
theorem dL_law_503 : decode cL_law 503 = .ok (.iconst 2, 1) := by decide +kernel
theorem dL_law_504 : decode cL_law 504 = .ok (.iadd, 1) := by decide +kernel
theorem dL_law_505 : decode cL_law 505 = .ok (.iaload, 1) := by decide +kernel
theorem dL_law_506 : decode cL_law 506 = .ok (.aload_n 0, 1) := by decide +kernel
theorem dL_law_507 : decode cL_law 507 = .ok (.iload_n 3, 1) := by decide +kernel
theorem dL_law_508 : decode cL_law 508 = .ok (.iconst 3, 1) := by decide +kernel
theorem dL_law_509 : decode cL_law 509 = .ok (.iadd, 1) := by decide +kernel
theorem dL_law_510 : decode cL_law 510 = .ok (.iaload, 1) := by decide +kernel
theorem dL_law_511 : decode cL_law 511 = .ok (.aload_n 0, 1) := by decide +kernel
theorem dL_law_512 : decode cL_law 512 = .ok (.iload_n 3, 1) := by decide +kernel
theorem dL_law_513 : decode cL_law 513 = .ok (.iconst 4, 1) := by decide +kernel
theorem dL_law_514 : decode cL_law 514 = .ok (.iadd, 1) := by decide +kernel
theorem dL_law_515 : decode cL_law 515 = .ok (.iaload, 1) := by decide +kernel
theorem dL_law_516 : decode cL_law 516 = .ok (.invokevirtual 70, 3) := by decide +kernel
theorem dL_law_519 : decode cL_law 519 = .ok (.aload_n 2, 1) := by decide +kernel
theorem dL_law_520 : decode cL_law 520 = .ok (.aload_n 0, 1) := by decide +kernel
theorem dL_law_521 : decode cL_law 521 = .ok (.iload_n 3, 1) := by decide +kernel
theorem dL_law_522 : decode cL_law 522 = .ok (.iconst 1, 1) := by decide +kernel
theorem dL_law_523 : decode cL_law 523 = .ok (.iadd, 1) := by decide +kernel
theorem dL_law_524 : decode cL_law 524 = .ok (.iaload, 1) := by decide +kernel
theorem dL_law_525 : decode cL_law 525 = .ok (.aload_n 0, 1) := by decide +kernel
theorem dL_law_526 : decode cL_law 526 = .ok (.iload_n 3, 1) := by decide +kernel
theorem dL_law_527 : decode cL_law 527 = .ok (.iconst 2, 1) := by decide +kernel
theorem dL_law_528 : decode cL_law 528 = .ok (.iadd, 1) := by decide +kernel
theorem dL_law_529 : decode cL_law 529 = .ok (.iaload, 1) := by decide +kernel
theorem dL_law_530 : decode cL_law 530 = .ok (.aload_n 0, 1) := by decide +kernel
theorem dL_law_531 : decode cL_law 531 = .ok (.iload_n 3, 1) := by decide +kernel
theorem dL_law_532 : decode cL_law 532 = .ok (.iconst 3, 1) := by decide +kernel
theorem dL_law_533 : decode cL_law 533 = .ok (.iadd, 1) := by decide +kernel
theorem dL_law_534 : decode cL_law 534 = .ok (.iaload, 1) := by decide +kernel
theorem dL_law_535 : decode cL_law 535 = .ok (.aload_n 0, 1) := by decide +kernel
theorem dL_law_536 : decode cL_law 536 = .ok (.iload_n 3, 1) := by decide +kernel
theorem dL_law_537 : decode cL_law 537 = .ok (.iconst 4, 1) := by decide +kernel
theorem dL_law_538 : decode cL_law 538 = .ok (.iadd, 1) := by decide +kernel
theorem dL_law_539 : decode cL_law 539 = .ok (.iaload, 1) := by decide +kernel
theorem dL_law_540 : decode cL_law 540 = .ok (.invokevirtual 74, 3) := by decide +kernel
theorem dL_law_543 : decode cL_law 543 = .ok (.if_icmp .eq 209, 3) := by decide +kernel
theorem dL_law_548 : decode cL_law 548 = .ok (.aload_n 1, 1) := by decide +kernel
theorem dL_law_549 : decode cL_law 549 = .ok (.aload_n 0, 1) := by decide +kernel
theorem dL_law_550 : decode cL_law 550 = .ok (.iload_n 3, 1) := by decide +kernel
theorem dL_law_551 : decode cL_law 551 = .ok (.iconst 1, 1) := by decide +kernel
theorem dL_law_552 : decode cL_law 552 = .ok (.iadd, 1) := by decide +kernel
theorem dL_law_553 : decode cL_law 553 = .ok (.iaload, 1) := by decide +kernel
theorem dL_law_554 : decode cL_law 554 = .ok (.aload_n 0, 1) := by decide +kernel
theorem dL_law_555 : decode cL_law 555 = .ok (.iload_n 3, 1) := by decide +kernel
theorem dL_law_556 : decode cL_law 556 = .ok (.iconst 2, 1) := by decide +kernel
theorem dL_law_557 : decode cL_law 557 = .ok (.iadd, 1) := by decide +kernel
theorem dL_law_558 : decode cL_law 558 = .ok (.iaload, 1) := by decide +kernel
theorem dL_law_559 : decode cL_law 559 = .ok (.aload_n 0, 1) := by decide +kernel
theorem dL_law_560 : decode cL_law 560 = .ok (.iload_n 3, 1) := by decide +kernel
theorem dL_law_561 : decode cL_law 561 = .ok (.iconst 3, 1) := by decide +kernel
theorem dL_law_562 : decode cL_law 562 = .ok (.iadd, 1) := by decide +kernel
theorem dL_law_563 : decode cL_law 563 = .ok (.iaload, 1) := by decide +kernel
theorem dL_law_564 : decode cL_law 564 = .ok (.aload_n 0, 1) := by decide +kernel
theorem dL_law_565 : decode cL_law 565 = .ok (.iload_n 3, 1) := by decide +kernel
theorem dL_law_566 : decode cL_law 566 = .ok (.iconst 4, 1) := by decide +kernel
theorem dL_law_567 : decode cL_law 567 = .ok (.iadd, 1) := by decide +kernel
theorem dL_law_568 : decode cL_law 568 = .ok (.iaload, 1) := by decide +kernel
theorem dL_law_569 : decode cL_law 569 = .ok (.invokevirtual 75, 3) := by decide +kernel
theorem dL_law_572 : decode cL_law 572 = .ok (.aload_n 2, 1) := by decide +kernel
theorem dL_law_573 : decode cL_law 573 = .ok (.aload_n 0, 1) := by decide +kernel
theorem dL_law_574 : decode cL_law 574 = .ok (.iload_n 3, 1) := by decide +kernel
theorem dL_law_575 : decode cL_law 575 = .ok (.iconst 1, 1) := by decide +kernel
theorem dL_law_576 : decode cL_law 576 = .ok (.iadd, 1) := by decide +kernel
theorem dL_law_577 : decode cL_law 577 = .ok (.iaload, 1) := by decide +kernel
theorem dL_law_578 : decode cL_law 578 = .ok (.aload_n 0, 1) := by decide +kernel
theorem dL_law_579 : decode cL_law 579 = .ok (.iload_n 3, 1) := by decide +kernel
theorem dL_law_580 : decode cL_law 580 = .ok (.iconst 2, 1) := by decide +kernel
theorem dL_law_581 : decode cL_law 581 = .ok (.iadd, 1) := by decide +kernel
theorem dL_law_582 : decode cL_law 582 = .ok (.iaload, 1) := by decide +kernel
theorem dL_law_583 : decode cL_law 583 = .ok (.aload_n 0, 1) := by decide +kernel
theorem dL_law_584 : decode cL_law 584 = .ok (.iload_n 3, 1) := by decide +kernel
theorem dL_law_585 : decode cL_law 585 = .ok (.iconst 3, 1) := by decide +kernel
theorem dL_law_586 : decode cL_law 586 = .ok (.iadd, 1) := by decide +kernel
theorem dL_law_587 : decode cL_law 587 = .ok (.iaload, 1) := by decide +kernel
theorem dL_law_588 : decode cL_law 588 = .ok (.aload_n 0, 1) := by decide +kernel
theorem dL_law_589 : decode cL_law 589 = .ok (.iload_n 3, 1) := by decide +kernel
theorem dL_law_590 : decode cL_law 590 = .ok (.iconst 4, 1) := by decide +kernel
theorem dL_law_591 : decode cL_law 591 = .ok (.iadd, 1) := by decide +kernel
theorem dL_law_592 : decode cL_law 592 = .ok (.iaload, 1) := by decide +kernel
theorem dL_law_593 : decode cL_law 593 = .ok (.invokevirtual 78, 3) := by decide +kernel
theorem dL_law_596 : decode cL_law 596 = .ok (.if_icmp .eq 156, 3) := by decide +kernel
section CasesL
variable {G : GT} {b Ls : Nat} {xs : Nat → Int32} {c0 s0 n : Nat} {μ : Mem} {i : Int}
theorem ca_462 (hg : gx G = fun _ _ => True) (hF : FX n μ) (hI : INV n μ) (h0 : 0 ≤ i) (h1 : i + 6 ≤ Ls) (hLs : Ls ≤ 3072) (hc : c0 + 150 ≤ 600000) (hs : s0 + 900 ≤ 7302250) (w : ∀ (n' : Nat) (ν : Mem), FX n' ν → INV n' ν → Wl G b Ls xs (c0 + 150) (s0 + 900) n' ν 752 (lL i) []) : Wl G b Ls xs c0 s0 n μ 462 (lL i) [] := by
  have hP : Pr (setX G FX) Y_X10_tick Y_X11_tick [.inl (xs (i + ((1 : Nat) : Int)).toNat).toInt, .inl (xs (i + ((2 : Nat) : Int)).toNat).toInt] n μ := P_tick rfl hI
  refine l_aload_n (k := 2) (by decide) dL_law_462 rfl rfl ?_
  refine l_elem (j := 1) (k := 0) ⟨by decide, by decide⟩ rfl h0 (by omega) (by omega) dL_law_463 dL_law_464 dL_law_465 dL_law_466 dL_law_467 ?_
  refine l_elem (j := 2) (k := 0) ⟨by decide, by decide⟩ rfl h0 (by omega) (by omega) dL_law_468 dL_law_469 dL_law_470 dL_law_471 dL_law_472 ?_
  refine l_VI (Yc := Y_X10_tick) (ci := 10) (N := 12) (a := 0) (st := []) (As := [.inl (xs (i + ((1 : Nat) : Int)).toNat).toInt, .inl (xs (i + ((2 : Nat) : Int)).toNat).toInt]) rfl dL_law_473 lm_L_66 mc_X10_tick mi_X10_tick ms_X10_tick (Nat.le_of_ble_eq_true rfl) (fits_of (by decide) (by show c0 + 0 ≤ 600000; omega) (by show s0 + 0 ≤ 7302250; omega)) cf_10.2.1 (by decide) ⟨by decide, by have := hF.1; omega, St_0.2.2⟩ (CI_gx hg hF hP) rfl rfl ?_
  intro x1 n1 μ1 hq
  obtain ⟨hq1, hF1⟩ := hq
  refine l_aload_n (k := 1) (by decide) dL_law_476 rfl rfl ?_
  refine l_elem (j := 1) (k := 0) ⟨by decide, by decide⟩ rfl h0 (by omega) (by omega) dL_law_477 dL_law_478 dL_law_479 dL_law_480 dL_law_481 ?_
  refine l_elem (j := 2) (k := 0) ⟨by decide, by decide⟩ rfl h0 (by omega) (by omega) dL_law_482 dL_law_483 dL_law_484 dL_law_485 dL_law_486 ?_
  refine l_VI (Yc := Y_X11_tick) (ci := 11) (N := 28) (a := 399) (st := [.inl x1]) (As := [.inl (xs (i + ((1 : Nat) : Int)).toNat).toInt, .inl (xs (i + ((2 : Nat) : Int)).toNat).toInt]) rfl dL_law_487 lm_L_69 mc_X11_tick mi_X11_tick ms_X11_tick (Nat.le_of_ble_eq_true rfl) (fits_of (by decide) (by show c0 + 0 + 0 ≤ 600000; omega) (by show s0 + 0 + 0 ≤ 7302250; omega)) cf_11.2.1 (by decide) ⟨by decide, by have := hF1.1; omega, St_399.2.2⟩ (CI_gx hg hF1 hq1) rfl rfl ?_
  intro x2 n2 μ2 hq
  obtain ⟨⟨he, hI2⟩, hF2⟩ := hq
  refine l_same (tgt := 752) dL_law_490 rfl he (l_wide ?_ ?_ (w n2 μ2 hF2 hI2))
  · show c0 + 0 + 0 ≤ c0 + 150
    omega
  · show s0 + 0 + 0 ≤ s0 + 900
    omega
theorem ca_495 (hg : gx G = fun _ _ => True) (hF : FX n μ) (hI : INV n μ) (h0 : 0 ≤ i) (h1 : i + 6 ≤ Ls) (hLs : Ls ≤ 3072) (hc : c0 + 150 ≤ 600000) (hs : s0 + 900 ≤ 7302250) (w : ∀ (n' : Nat) (ν : Mem), FX n' ν → INV n' ν → Wl G b Ls xs (c0 + 150) (s0 + 900) n' ν 752 (lL i) []) : Wl G b Ls xs c0 s0 n μ 495 (lL i) [] := by
  have hP : Pr (setX G FX) Y_X10_asks Y_X11_asks [.inl (xs (i + ((1 : Nat) : Int)).toNat).toInt, .inl (xs (i + ((2 : Nat) : Int)).toNat).toInt, .inl (xs (i + ((3 : Nat) : Int)).toNat).toInt, .inl (xs (i + ((4 : Nat) : Int)).toNat).toInt] n μ := P_asks rfl hI
  refine l_aload_n (k := 2) (by decide) dL_law_495 rfl rfl ?_
  refine l_elem (j := 1) (k := 0) ⟨by decide, by decide⟩ rfl h0 (by omega) (by omega) dL_law_496 dL_law_497 dL_law_498 dL_law_499 dL_law_500 ?_
  refine l_elem (j := 2) (k := 0) ⟨by decide, by decide⟩ rfl h0 (by omega) (by omega) dL_law_501 dL_law_502 dL_law_503 dL_law_504 dL_law_505 ?_
  refine l_elem (j := 3) (k := 0) ⟨by decide, by decide⟩ rfl h0 (by omega) (by omega) dL_law_506 dL_law_507 dL_law_508 dL_law_509 dL_law_510 ?_
  refine l_elem (j := 4) (k := 0) ⟨by decide, by decide⟩ rfl h0 (by omega) (by omega) dL_law_511 dL_law_512 dL_law_513 dL_law_514 dL_law_515 ?_
  refine l_VI (Yc := Y_X10_asks) (ci := 10) (N := 12) (a := 0) (st := []) (As := [.inl (xs (i + ((1 : Nat) : Int)).toNat).toInt, .inl (xs (i + ((2 : Nat) : Int)).toNat).toInt, .inl (xs (i + ((3 : Nat) : Int)).toNat).toInt, .inl (xs (i + ((4 : Nat) : Int)).toNat).toInt]) rfl dL_law_516 lm_L_70 mc_X10_asks mi_X10_asks ms_X10_asks (Nat.le_of_ble_eq_true rfl) (fits_of (by decide) (by show c0 + 0 ≤ 600000; omega) (by show s0 + 0 ≤ 7302250; omega)) cf_10.2.1 (by decide) ⟨by decide, by have := hF.1; omega, St_0.2.2⟩ (CI_gx hg hF hP) rfl rfl ?_
  intro x1 n1 μ1 hq
  obtain ⟨hq1, hF1⟩ := hq
  refine l_aload_n (k := 1) (by decide) dL_law_519 rfl rfl ?_
  refine l_elem (j := 1) (k := 0) ⟨by decide, by decide⟩ rfl h0 (by omega) (by omega) dL_law_520 dL_law_521 dL_law_522 dL_law_523 dL_law_524 ?_
  refine l_elem (j := 2) (k := 0) ⟨by decide, by decide⟩ rfl h0 (by omega) (by omega) dL_law_525 dL_law_526 dL_law_527 dL_law_528 dL_law_529 ?_
  refine l_elem (j := 3) (k := 0) ⟨by decide, by decide⟩ rfl h0 (by omega) (by omega) dL_law_530 dL_law_531 dL_law_532 dL_law_533 dL_law_534 ?_
  refine l_elem (j := 4) (k := 0) ⟨by decide, by decide⟩ rfl h0 (by omega) (by omega) dL_law_535 dL_law_536 dL_law_537 dL_law_538 dL_law_539 ?_
  refine l_VI (Yc := Y_X11_asks) (ci := 11) (N := 28) (a := 399) (st := [.inl x1]) (As := [.inl (xs (i + ((1 : Nat) : Int)).toNat).toInt, .inl (xs (i + ((2 : Nat) : Int)).toNat).toInt, .inl (xs (i + ((3 : Nat) : Int)).toNat).toInt, .inl (xs (i + ((4 : Nat) : Int)).toNat).toInt]) rfl dL_law_540 lm_L_74 mc_X11_asks mi_X11_asks ms_X11_asks (Nat.le_of_ble_eq_true rfl) (fits_of (by decide) (by show c0 + 0 + 0 ≤ 600000; omega) (by show s0 + 0 + 0 ≤ 7302250; omega)) cf_11.2.1 (by decide) ⟨by decide, by have := hF1.1; omega, St_399.2.2⟩ (CI_gx hg hF1 hq1) rfl rfl ?_
  intro x2 n2 μ2 hq
  obtain ⟨⟨he, hI2⟩, hF2⟩ := hq
  refine l_same (tgt := 752) dL_law_543 rfl he (l_wide ?_ ?_ (w n2 μ2 hF2 hI2))
  · show c0 + 0 + 0 ≤ c0 + 150
    omega
  · show s0 + 0 + 0 ≤ s0 + 900
    omega
theorem ca_548 (hg : gx G = fun _ _ => True) (hF : FX n μ) (hI : INV n μ) (h0 : 0 ≤ i) (h1 : i + 6 ≤ Ls) (hLs : Ls ≤ 3072) (hc : c0 + 150 ≤ 600000) (hs : s0 + 900 ≤ 7302250) (w : ∀ (n' : Nat) (ν : Mem), FX n' ν → INV n' ν → Wl G b Ls xs (c0 + 150) (s0 + 900) n' ν 752 (lL i) []) : Wl G b Ls xs c0 s0 n μ 548 (lL i) [] := by
  have hP : Pr (setX G FX) Y_X10_largest Y_X11_largest [.inl (xs (i + ((1 : Nat) : Int)).toNat).toInt, .inl (xs (i + ((2 : Nat) : Int)).toNat).toInt, .inl (xs (i + ((3 : Nat) : Int)).toNat).toInt, .inl (xs (i + ((4 : Nat) : Int)).toNat).toInt] n μ := P_largest rfl hI
  refine l_aload_n (k := 2) (by decide) dL_law_548 rfl rfl ?_
  refine l_elem (j := 1) (k := 0) ⟨by decide, by decide⟩ rfl h0 (by omega) (by omega) dL_law_549 dL_law_550 dL_law_551 dL_law_552 dL_law_553 ?_
  refine l_elem (j := 2) (k := 0) ⟨by decide, by decide⟩ rfl h0 (by omega) (by omega) dL_law_554 dL_law_555 dL_law_556 dL_law_557 dL_law_558 ?_
  refine l_elem (j := 3) (k := 0) ⟨by decide, by decide⟩ rfl h0 (by omega) (by omega) dL_law_559 dL_law_560 dL_law_561 dL_law_562 dL_law_563 ?_
  refine l_elem (j := 4) (k := 0) ⟨by decide, by decide⟩ rfl h0 (by omega) (by omega) dL_law_564 dL_law_565 dL_law_566 dL_law_567 dL_law_568 ?_
  refine l_VI (Yc := Y_X10_largest) (ci := 10) (N := 12) (a := 0) (st := []) (As := [.inl (xs (i + ((1 : Nat) : Int)).toNat).toInt, .inl (xs (i + ((2 : Nat) : Int)).toNat).toInt, .inl (xs (i + ((3 : Nat) : Int)).toNat).toInt, .inl (xs (i + ((4 : Nat) : Int)).toNat).toInt]) rfl dL_law_569 lm_L_75 mc_X10_largest mi_X10_largest ms_X10_largest (Nat.le_of_ble_eq_true rfl) (fits_of (by decide) (by show c0 + 0 ≤ 600000; omega) (by show s0 + 0 ≤ 7302250; omega)) cf_10.2.1 (by decide) ⟨by decide, by have := hF.1; omega, St_0.2.2⟩ (CI_gx hg hF hP) rfl rfl ?_
  intro x1 n1 μ1 hq
  obtain ⟨hq1, hF1⟩ := hq
  refine l_aload_n (k := 1) (by decide) dL_law_572 rfl rfl ?_
  refine l_elem (j := 1) (k := 0) ⟨by decide, by decide⟩ rfl h0 (by omega) (by omega) dL_law_573 dL_law_574 dL_law_575 dL_law_576 dL_law_577 ?_
  refine l_elem (j := 2) (k := 0) ⟨by decide, by decide⟩ rfl h0 (by omega) (by omega) dL_law_578 dL_law_579 dL_law_580 dL_law_581 dL_law_582 ?_
  refine l_elem (j := 3) (k := 0) ⟨by decide, by decide⟩ rfl h0 (by omega) (by omega) dL_law_583 dL_law_584 dL_law_585 dL_law_586 dL_law_587 ?_
  refine l_elem (j := 4) (k := 0) ⟨by decide, by decide⟩ rfl h0 (by omega) (by omega) dL_law_588 dL_law_589 dL_law_590 dL_law_591 dL_law_592 ?_
  refine l_VI (Yc := Y_X11_largest) (ci := 11) (N := 28) (a := 399) (st := [.inl x1]) (As := [.inl (xs (i + ((1 : Nat) : Int)).toNat).toInt, .inl (xs (i + ((2 : Nat) : Int)).toNat).toInt, .inl (xs (i + ((3 : Nat) : Int)).toNat).toInt, .inl (xs (i + ((4 : Nat) : Int)).toNat).toInt]) rfl dL_law_593 lm_L_78 mc_X11_largest mi_X11_largest ms_X11_largest (Nat.le_of_ble_eq_true rfl) (fits_of (by decide) (by show c0 + 0 + 0 ≤ 600000; omega) (by show s0 + 0 + 0 ≤ 7302250; omega)) cf_11.2.1 (by decide) ⟨by decide, by have := hF1.1; omega, St_399.2.2⟩ (CI_gx hg hF1 hq1) rfl rfl ?_
  intro x2 n2 μ2 hq
  obtain ⟨⟨he, hI2⟩, hF2⟩ := hq
  refine l_same (tgt := 752) dL_law_596 rfl he (l_wide ?_ ?_ (w n2 μ2 hF2 hI2))
  · show c0 + 0 + 0 ≤ c0 + 150
    omega
  · show s0 + 0 + 0 ≤ s0 + 900
    omega
end CasesL
