-- the law: its decode rows and cases, by program (wip/gen/gen_cases.py)
theorem dL_law_304 : decode cL_law 304 = .ok (.aload_n 1, 1) := by decide +kernel
theorem dL_law_305 : decode cL_law 305 = .ok (.aload_n 0, 1) := by decide +kernel
theorem dL_law_306 : decode cL_law 306 = .ok (.iload_n 3, 1) := by decide +kernel
theorem dL_law_307 : decode cL_law 307 = .ok (.iconst 1, 1) := by decide +kernel
theorem dL_law_308 : decode cL_law 308 = .ok (.iadd, 1) := by decide +kernel
theorem dL_law_309 : decode cL_law 309 = .ok (.iaload, 1) := by decide +kernel
theorem dL_law_310 : decode cL_law 310 = .ok (.invokevirtual 41, 3) := by decide +kernel
theorem dL_law_313 : decode cL_law 313 = .ok (.aload_n 2, 1) := by decide +kernel
theorem dL_law_314 : decode cL_law 314 = .ok (.aload_n 0, 1) := by decide +kernel
theorem dL_law_315 : decode cL_law 315 = .ok (.iload_n 3, 1) := by decide +kernel
theorem dL_law_316 : decode cL_law 316 = .ok (.iconst 1, 1) := by decide +kernel
theorem dL_law_317 : decode cL_law 317 = .ok (.iadd, 1) := by decide +kernel
theorem dL_law_318 : decode cL_law 318 = .ok (.iaload, 1) := by decide +kernel
theorem dL_law_319 : decode cL_law 319 = .ok (.invokevirtual 44, 3) := by decide +kernel
theorem dL_law_322 : decode cL_law 322 = .ok (.if_icmp .eq 430, 3) := by decide +kernel
theorem dL_law_327 : decode cL_law 327 = .ok (.aload_n 1, 1) := by decide +kernel
theorem dL_law_328 : decode cL_law 328 = .ok (.aload_n 0, 1) := by decide +kernel
theorem dL_law_329 : decode cL_law 329 = .ok (.iload_n 3, 1) := by decide +kernel
theorem dL_law_330 : decode cL_law 330 = .ok (.iconst 1, 1) := by decide +kernel
theorem dL_law_331 : decode cL_law 331 = .ok (.iadd, 1) := by decide +kernel
theorem dL_law_332 : decode cL_law 332 = .ok (.iaload, 1) := by decide +kernel
theorem dL_law_333 : decode cL_law 333 = .ok (.invokevirtual 45, 3) := by decide +kernel
theorem dL_law_336 : decode cL_law 336 = .ok (.aload_n 2, 1) := by decide +kernel
theorem dL_law_337 : decode cL_law 337 = .ok (.aload_n 0, 1) := by decide +kernel
theorem dL_law_338 : decode cL_law 338 = .ok (.iload_n 3, 1) := by decide +kernel
theorem dL_law_339 : decode cL_law 339 = .ok (.iconst 1, 1) := by decide +kernel
theorem dL_law_340 : decode cL_law 340 = .ok (.iadd, 1) := by decide +kernel
theorem dL_law_341 : decode cL_law 341 = .ok (.iaload, 1) := by decide +kernel
theorem dL_law_342 : decode cL_law 342 = .ok (.invokevirtual 48, 3) := by decide +kernel
theorem dL_law_345 : decode cL_law 345 = .ok (.if_icmp .eq 407, 3) := by decide +kernel
theorem dL_law_350 : decode cL_law 350 = .ok (.aload_n 1, 1) := by decide +kernel
theorem dL_law_351 : decode cL_law 351 = .ok (.aload_n 0, 1) := by decide +kernel
theorem dL_law_352 : decode cL_law 352 = .ok (.iload_n 3, 1) := by decide +kernel
theorem dL_law_353 : decode cL_law 353 = .ok (.iconst 1, 1) := by decide +kernel
theorem dL_law_354 : decode cL_law 354 = .ok (.iadd, 1) := by decide +kernel
theorem dL_law_355 : decode cL_law 355 = .ok (.iaload, 1) := by decide +kernel
theorem dL_law_356 : decode cL_law 356 = .ok (.invokevirtual 49, 3) := by decide +kernel
theorem dL_law_359 : decode cL_law 359 = .ok (.aload_n 2, 1) := by decide +kernel
theorem dL_law_360 : decode cL_law 360 = .ok (.aload_n 0, 1) := by decide +kernel
theorem dL_law_361 : decode cL_law 361 = .ok (.iload_n 3, 1) := by decide +kernel
theorem dL_law_362 : decode cL_law 362 = .ok (.iconst 1, 1) := by decide +kernel
theorem dL_law_363 : decode cL_law 363 = .ok (.iadd, 1) := by decide +kernel
theorem dL_law_364 : decode cL_law 364 = .ok (.iaload, 1) := by decide +kernel
theorem dL_law_365 : decode cL_law 365 = .ok (.invokevirtual 52, 3) := by decide +kernel
theorem dL_law_368 : decode cL_law 368 = .ok (.if_icmp .eq 384, 3) := by decide +kernel
theorem dL_law_373 : decode cL_law 373 = .ok (.aload_n 1, 1) := by decide +kernel
theorem dL_law_374 : decode cL_law 374 = .ok (.invokevirtual 53, 3) := by decide +kernel
theorem dL_law_377 : decode cL_law 377 = .ok (.aload_n 2, 1) := by decide +kernel
theorem dL_law_378 : decode cL_law 378 = .ok (.invokevirtual 56, 3) := by decide +kernel
theorem dL_law_381 : decode cL_law 381 = .ok (.if_icmp .eq 371, 3) := by decide +kernel
theorem dL_law_386 : decode cL_law 386 = .ok (.aload_n 1, 1) := by decide +kernel
theorem dL_law_387 : decode cL_law 387 = .ok (.aload_n 0, 1) := by decide +kernel
theorem dL_law_388 : decode cL_law 388 = .ok (.iload_n 3, 1) := by decide +kernel
theorem dL_law_389 : decode cL_law 389 = .ok (.iconst 1, 1) := by decide +kernel
theorem dL_law_390 : decode cL_law 390 = .ok (.iadd, 1) := by decide +kernel
theorem dL_law_391 : decode cL_law 391 = .ok (.iaload, 1) := by decide +kernel
theorem dL_law_392 : decode cL_law 392 = .ok (.aload_n 0, 1) := by decide +kernel
theorem dL_law_393 : decode cL_law 393 = .ok (.iload_n 3, 1) := by decide +kernel
theorem dL_law_394 : decode cL_law 394 = .ok (.iconst 2, 1) := by decide +kernel
theorem dL_law_395 : decode cL_law 395 = .ok (.iadd, 1) := by decide +kernel
theorem dL_law_396 : decode cL_law 396 = .ok (.iaload, 1) := by decide +kernel
theorem dL_law_397 : decode cL_law 397 = .ok (.invokevirtual 57, 3) := by decide +kernel
theorem dL_law_400 : decode cL_law 400 = .ok (.aload_n 2, 1) := by decide +kernel
theorem dL_law_401 : decode cL_law 401 = .ok (.aload_n 0, 1) := by decide +kernel
theorem dL_law_402 : decode cL_law 402 = .ok (.iload_n 3, 1) := by decide +kernel
theorem dL_law_403 : decode cL_law 403 = .ok (.iconst 1, 1) := by decide +kernel
theorem dL_law_404 : decode cL_law 404 = .ok (.iadd, 1) := by decide +kernel
theorem dL_law_405 : decode cL_law 405 = .ok (.iaload, 1) := by decide +kernel
theorem dL_law_406 : decode cL_law 406 = .ok (.aload_n 0, 1) := by decide +kernel
theorem dL_law_407 : decode cL_law 407 = .ok (.iload_n 3, 1) := by decide +kernel
theorem dL_law_408 : decode cL_law 408 = .ok (.iconst 2, 1) := by decide +kernel
theorem dL_law_409 : decode cL_law 409 = .ok (.iadd, 1) := by decide +kernel
theorem dL_law_410 : decode cL_law 410 = .ok (.iaload, 1) := by decide +kernel
theorem dL_law_411 : decode cL_law 411 = .ok (.invokevirtual 60, 3) := by decide +kernel
theorem dL_law_414 : decode cL_law 414 = .ok (.if_icmp .eq 338, 3) := by decide +kernel
theorem dL_law_419 : decode cL_law 419 = .ok (.aload_n 1, 1) := by decide +kernel
theorem dL_law_420 : decode cL_law 420 = .ok (.aload_n 0, 1) := by decide +kernel
theorem dL_law_421 : decode cL_law 421 = .ok (.iload_n 3, 1) := by decide +kernel
theorem dL_law_422 : decode cL_law 422 = .ok (.iconst 1, 1) := by decide +kernel
theorem dL_law_423 : decode cL_law 423 = .ok (.iadd, 1) := by decide +kernel
theorem dL_law_424 : decode cL_law 424 = .ok (.iaload, 1) := by decide +kernel
theorem dL_law_425 : decode cL_law 425 = .ok (.aload_n 0, 1) := by decide +kernel
theorem dL_law_426 : decode cL_law 426 = .ok (.iload_n 3, 1) := by decide +kernel
theorem dL_law_427 : decode cL_law 427 = .ok (.iconst 2, 1) := by decide +kernel
theorem dL_law_428 : decode cL_law 428 = .ok (.iadd, 1) := by decide +kernel
theorem dL_law_429 : decode cL_law 429 = .ok (.iaload, 1) := by decide +kernel
theorem dL_law_430 : decode cL_law 430 = .ok (.aload_n 0, 1) := by decide +kernel
theorem dL_law_431 : decode cL_law 431 = .ok (.iload_n 3, 1) := by decide +kernel
theorem dL_law_432 : decode cL_law 432 = .ok (.iconst 3, 1) := by decide +kernel
theorem dL_law_433 : decode cL_law 433 = .ok (.iadd, 1) := by decide +kernel
theorem dL_law_434 : decode cL_law 434 = .ok (.iaload, 1) := by decide +kernel
theorem dL_law_435 : decode cL_law 435 = .ok (.invokevirtual 61, 3) := by decide +kernel
theorem dL_law_438 : decode cL_law 438 = .ok (.aload_n 2, 1) := by decide +kernel
theorem dL_law_439 : decode cL_law 439 = .ok (.aload_n 0, 1) := by decide +kernel
theorem dL_law_440 : decode cL_law 440 = .ok (.iload_n 3, 1) := by decide +kernel
theorem dL_law_441 : decode cL_law 441 = .ok (.iconst 1, 1) := by decide +kernel
theorem dL_law_442 : decode cL_law 442 = .ok (.iadd, 1) := by decide +kernel
theorem dL_law_443 : decode cL_law 443 = .ok (.iaload, 1) := by decide +kernel
theorem dL_law_444 : decode cL_law 444 = .ok (.aload_n 0, 1) := by decide +kernel
theorem dL_law_445 : decode cL_law 445 = .ok (.iload_n 3, 1) := by decide +kernel
theorem dL_law_446 : decode cL_law 446 = .ok (.iconst 2, 1) := by decide +kernel
theorem dL_law_447 : decode cL_law 447 = .ok (.iadd, 1) := by decide +kernel
theorem dL_law_448 : decode cL_law 448 = .ok (.iaload, 1) := by decide +kernel
theorem dL_law_449 : decode cL_law 449 = .ok (.aload_n 0, 1) := by decide +kernel
theorem dL_law_450 : decode cL_law 450 = .ok (.iload_n 3, 1) := by decide +kernel
theorem dL_law_451 : decode cL_law 451 = .ok (.iconst 3, 1) := by decide +kernel
theorem dL_law_452 : decode cL_law 452 = .ok (.iadd, 1) := by decide +kernel
theorem dL_law_453 : decode cL_law 453 = .ok (.iaload, 1) := by decide +kernel
theorem dL_law_454 : decode cL_law 454 = .ok (.invokevirtual 65, 3) := by decide +kernel
theorem dL_law_457 : decode cL_law 457 = .ok (.if_icmp .eq 295, 3) := by decide +kernel
section CasesL
variable {G : GT} {b Ls : Nat} {xs : Nat → Int32} {c0 s0 n : Nat} {μ : Mem} {i : Int}
theorem ca_304 (hg : gx G = fun _ _ => True) (hF : FX n μ) (hI : INV n μ) (h0 : 0 ≤ i) (h1 : i + 6 ≤ Ls) (hLs : Ls ≤ 3072) (hc : c0 + 150 ≤ 600000) (hs : s0 + 900 ≤ 7302250) (w : ∀ (n' : Nat) (ν : Mem), FX n' ν → INV n' ν → Wl G b Ls xs (c0 + 150) (s0 + 900) n' ν 752 (lL i) []) : Wl G b Ls xs c0 s0 n μ 304 (lL i) [] := by
  have hP : Pr (setX G FX) Y_X10_passes Y_X11_passes [.inl (xs (i + ((1 : Nat) : Int)).toNat).toInt] n μ := P_passes rfl hI
  refine l_aload_n (k := 2) (by decide) dL_law_304 rfl rfl ?_
  refine l_elem (j := 1) (k := 0) ⟨by decide, by decide⟩ rfl h0 (by omega) (by omega) dL_law_305 dL_law_306 dL_law_307 dL_law_308 dL_law_309 ?_
  refine l_VI (Yc := Y_X10_passes) (ci := 10) (N := 12) (a := 0) (st := []) (As := [.inl (xs (i + ((1 : Nat) : Int)).toNat).toInt]) rfl dL_law_310 lm_L_41 mc_X10_passes mi_X10_passes ms_X10_passes (Nat.le_of_ble_eq_true rfl) (fits_of (by decide) (by show c0 + 0 ≤ 600000; omega) (by show s0 + 0 ≤ 7302250; omega)) cf_10.2.1 (by decide) ⟨by decide, by have := hF.1; omega, St_0.2.2⟩ (CI_gx hg hF hP) rfl rfl ?_
  intro x1 n1 μ1 hq
  obtain ⟨hq1, hF1⟩ := hq
  refine l_aload_n (k := 1) (by decide) dL_law_313 rfl rfl ?_
  refine l_elem (j := 1) (k := 0) ⟨by decide, by decide⟩ rfl h0 (by omega) (by omega) dL_law_314 dL_law_315 dL_law_316 dL_law_317 dL_law_318 ?_
  refine l_VI (Yc := Y_X11_passes) (ci := 11) (N := 28) (a := 399) (st := [.inl x1]) (As := [.inl (xs (i + ((1 : Nat) : Int)).toNat).toInt]) rfl dL_law_319 lm_L_44 mc_X11_passes mi_X11_passes ms_X11_passes (Nat.le_of_ble_eq_true rfl) (fits_of (by decide) (by show c0 + 0 + 0 ≤ 600000; omega) (by show s0 + 0 + 0 ≤ 7302250; omega)) cf_11.2.1 (by decide) ⟨by decide, by have := hF1.1; omega, St_399.2.2⟩ (CI_gx hg hF1 hq1) rfl rfl ?_
  intro x2 n2 μ2 hq
  obtain ⟨⟨he, hI2⟩, hF2⟩ := hq
  refine l_same (tgt := 752) dL_law_322 rfl he (l_wide ?_ ?_ (w n2 μ2 hF2 hI2))
  · show c0 + 0 + 0 ≤ c0 + 150
    omega
  · show s0 + 0 + 0 ≤ s0 + 900
    omega
theorem ca_327 (hg : gx G = fun _ _ => True) (hF : FX n μ) (hI : INV n μ) (h0 : 0 ≤ i) (h1 : i + 6 ≤ Ls) (hLs : Ls ≤ 3072) (hc : c0 + 150 ≤ 600000) (hs : s0 + 900 ≤ 7302250) (w : ∀ (n' : Nat) (ν : Mem), FX n' ν → INV n' ν → Wl G b Ls xs (c0 + 150) (s0 + 900) n' ν 752 (lL i) []) : Wl G b Ls xs c0 s0 n μ 327 (lL i) [] := by
  have hP : Pr (setX G FX) Y_X10_misses Y_X11_misses [.inl (xs (i + ((1 : Nat) : Int)).toNat).toInt] n μ := P_misses rfl hI
  refine l_aload_n (k := 2) (by decide) dL_law_327 rfl rfl ?_
  refine l_elem (j := 1) (k := 0) ⟨by decide, by decide⟩ rfl h0 (by omega) (by omega) dL_law_328 dL_law_329 dL_law_330 dL_law_331 dL_law_332 ?_
  refine l_VI (Yc := Y_X10_misses) (ci := 10) (N := 12) (a := 0) (st := []) (As := [.inl (xs (i + ((1 : Nat) : Int)).toNat).toInt]) rfl dL_law_333 lm_L_45 mc_X10_misses mi_X10_misses ms_X10_misses (Nat.le_of_ble_eq_true rfl) (fits_of (by decide) (by show c0 + 0 ≤ 600000; omega) (by show s0 + 0 ≤ 7302250; omega)) cf_10.2.1 (by decide) ⟨by decide, by have := hF.1; omega, St_0.2.2⟩ (CI_gx hg hF hP) rfl rfl ?_
  intro x1 n1 μ1 hq
  obtain ⟨hq1, hF1⟩ := hq
  refine l_aload_n (k := 1) (by decide) dL_law_336 rfl rfl ?_
  refine l_elem (j := 1) (k := 0) ⟨by decide, by decide⟩ rfl h0 (by omega) (by omega) dL_law_337 dL_law_338 dL_law_339 dL_law_340 dL_law_341 ?_
  refine l_VI (Yc := Y_X11_misses) (ci := 11) (N := 28) (a := 399) (st := [.inl x1]) (As := [.inl (xs (i + ((1 : Nat) : Int)).toNat).toInt]) rfl dL_law_342 lm_L_48 mc_X11_misses mi_X11_misses ms_X11_misses (Nat.le_of_ble_eq_true rfl) (fits_of (by decide) (by show c0 + 0 + 0 ≤ 600000; omega) (by show s0 + 0 + 0 ≤ 7302250; omega)) cf_11.2.1 (by decide) ⟨by decide, by have := hF1.1; omega, St_399.2.2⟩ (CI_gx hg hF1 hq1) rfl rfl ?_
  intro x2 n2 μ2 hq
  obtain ⟨⟨he, hI2⟩, hF2⟩ := hq
  refine l_same (tgt := 752) dL_law_345 rfl he (l_wide ?_ ?_ (w n2 μ2 hF2 hI2))
  · show c0 + 0 + 0 ≤ c0 + 150
    omega
  · show s0 + 0 + 0 ≤ s0 + 900
    omega
theorem ca_350 (hg : gx G = fun _ _ => True) (hF : FX n μ) (hI : INV n μ) (h0 : 0 ≤ i) (h1 : i + 6 ≤ Ls) (hLs : Ls ≤ 3072) (hc : c0 + 150 ≤ 600000) (hs : s0 + 900 ≤ 7302250) (w : ∀ (n' : Nat) (ν : Mem), FX n' ν → INV n' ν → Wl G b Ls xs (c0 + 150) (s0 + 900) n' ν 752 (lL i) []) : Wl G b Ls xs c0 s0 n μ 350 (lL i) [] := by
  have hP : Pr (setX G FX) Y_X10_finds Y_X11_finds [.inl (xs (i + ((1 : Nat) : Int)).toNat).toInt] n μ := P_finds rfl hI
  refine l_aload_n (k := 2) (by decide) dL_law_350 rfl rfl ?_
  refine l_elem (j := 1) (k := 0) ⟨by decide, by decide⟩ rfl h0 (by omega) (by omega) dL_law_351 dL_law_352 dL_law_353 dL_law_354 dL_law_355 ?_
  refine l_VI (Yc := Y_X10_finds) (ci := 10) (N := 12) (a := 0) (st := []) (As := [.inl (xs (i + ((1 : Nat) : Int)).toNat).toInt]) rfl dL_law_356 lm_L_49 mc_X10_finds mi_X10_finds ms_X10_finds (Nat.le_of_ble_eq_true rfl) (fits_of (by decide) (by show c0 + 0 ≤ 600000; omega) (by show s0 + 0 ≤ 7302250; omega)) cf_10.2.1 (by decide) ⟨by decide, by have := hF.1; omega, St_0.2.2⟩ (CI_gx hg hF hP) rfl rfl ?_
  intro x1 n1 μ1 hq
  obtain ⟨hq1, hF1⟩ := hq
  refine l_aload_n (k := 1) (by decide) dL_law_359 rfl rfl ?_
  refine l_elem (j := 1) (k := 0) ⟨by decide, by decide⟩ rfl h0 (by omega) (by omega) dL_law_360 dL_law_361 dL_law_362 dL_law_363 dL_law_364 ?_
  refine l_VI (Yc := Y_X11_finds) (ci := 11) (N := 28) (a := 399) (st := [.inl x1]) (As := [.inl (xs (i + ((1 : Nat) : Int)).toNat).toInt]) rfl dL_law_365 lm_L_52 mc_X11_finds mi_X11_finds ms_X11_finds (Nat.le_of_ble_eq_true rfl) (fits_of (by decide) (by show c0 + 0 + 0 ≤ 600000; omega) (by show s0 + 0 + 0 ≤ 7302250; omega)) cf_11.2.1 (by decide) ⟨by decide, by have := hF1.1; omega, St_399.2.2⟩ (CI_gx hg hF1 hq1) rfl rfl ?_
  intro x2 n2 μ2 hq
  obtain ⟨⟨he, hI2⟩, hF2⟩ := hq
  refine l_same (tgt := 752) dL_law_368 rfl he (l_wide ?_ ?_ (w n2 μ2 hF2 hI2))
  · show c0 + 0 + 0 ≤ c0 + 150
    omega
  · show s0 + 0 + 0 ≤ s0 + 900
    omega
theorem ca_373 (hg : gx G = fun _ _ => True) (hF : FX n μ) (hI : INV n μ) (h0 : 0 ≤ i) (h1 : i + 6 ≤ Ls) (hLs : Ls ≤ 3072) (hc : c0 + 150 ≤ 600000) (hs : s0 + 900 ≤ 7302250) (w : ∀ (n' : Nat) (ν : Mem), FX n' ν → INV n' ν → Wl G b Ls xs (c0 + 150) (s0 + 900) n' ν 752 (lL i) []) : Wl G b Ls xs c0 s0 n μ 373 (lL i) [] := by
  have hP : Pr (setX G FX) Y_X10_undo Y_X11_undo [] n μ := P_undo rfl hI
  refine l_aload_n (k := 2) (by decide) dL_law_373 rfl rfl ?_
  refine l_VI (Yc := Y_X10_undo) (ci := 10) (N := 12) (a := 0) (st := []) (As := []) rfl dL_law_374 lm_L_53 mc_X10_undo mi_X10_undo ms_X10_undo (Nat.le_of_ble_eq_true rfl) (fits_of (by decide) (by show c0 + 0 ≤ 600000; omega) (by show s0 + 0 ≤ 7302250; omega)) cf_10.2.1 (by decide) ⟨by decide, by have := hF.1; omega, St_0.2.2⟩ (CI_gx hg hF hP) rfl rfl ?_
  intro x1 n1 μ1 hq
  obtain ⟨hq1, hF1⟩ := hq
  refine l_aload_n (k := 1) (by decide) dL_law_377 rfl rfl ?_
  refine l_VI (Yc := Y_X11_undo) (ci := 11) (N := 28) (a := 399) (st := [.inl x1]) (As := []) rfl dL_law_378 lm_L_56 mc_X11_undo mi_X11_undo ms_X11_undo (Nat.le_of_ble_eq_true rfl) (fits_of (by decide) (by show c0 + 0 + 0 ≤ 600000; omega) (by show s0 + 0 + 0 ≤ 7302250; omega)) cf_11.2.1 (by decide) ⟨by decide, by have := hF1.1; omega, St_399.2.2⟩ (CI_gx hg hF1 hq1) rfl rfl ?_
  intro x2 n2 μ2 hq
  obtain ⟨⟨he, hI2⟩, hF2⟩ := hq
  refine l_same (tgt := 752) dL_law_381 rfl he (l_wide ?_ ?_ (w n2 μ2 hF2 hI2))
  · show c0 + 0 + 0 ≤ c0 + 150
    omega
  · show s0 + 0 + 0 ≤ s0 + 900
    omega
theorem ca_386 (hg : gx G = fun _ _ => True) (hF : FX n μ) (hI : INV n μ) (h0 : 0 ≤ i) (h1 : i + 6 ≤ Ls) (hLs : Ls ≤ 3072) (hc : c0 + 150 ≤ 600000) (hs : s0 + 900 ≤ 7302250) (w : ∀ (n' : Nat) (ν : Mem), FX n' ν → INV n' ν → Wl G b Ls xs (c0 + 150) (s0 + 900) n' ν 752 (lL i) []) : Wl G b Ls xs c0 s0 n μ 386 (lL i) [] := by
  have hP : Pr (setX G FX) Y_X10_bundle Y_X11_bundle [.inl (xs (i + ((1 : Nat) : Int)).toNat).toInt, .inl (xs (i + ((2 : Nat) : Int)).toNat).toInt] n μ := P_bundle rfl hI
  refine l_aload_n (k := 2) (by decide) dL_law_386 rfl rfl ?_
  refine l_elem (j := 1) (k := 0) ⟨by decide, by decide⟩ rfl h0 (by omega) (by omega) dL_law_387 dL_law_388 dL_law_389 dL_law_390 dL_law_391 ?_
  refine l_elem (j := 2) (k := 0) ⟨by decide, by decide⟩ rfl h0 (by omega) (by omega) dL_law_392 dL_law_393 dL_law_394 dL_law_395 dL_law_396 ?_
  refine l_VI (Yc := Y_X10_bundle) (ci := 10) (N := 12) (a := 0) (st := []) (As := [.inl (xs (i + ((1 : Nat) : Int)).toNat).toInt, .inl (xs (i + ((2 : Nat) : Int)).toNat).toInt]) rfl dL_law_397 lm_L_57 mc_X10_bundle mi_X10_bundle ms_X10_bundle (Nat.le_of_ble_eq_true rfl) (fits_of (by decide) (by show c0 + 0 ≤ 600000; omega) (by show s0 + 0 ≤ 7302250; omega)) cf_10.2.1 (by decide) ⟨by decide, by have := hF.1; omega, St_0.2.2⟩ (CI_gx hg hF hP) rfl rfl ?_
  intro x1 n1 μ1 hq
  obtain ⟨hq1, hF1⟩ := hq
  refine l_aload_n (k := 1) (by decide) dL_law_400 rfl rfl ?_
  refine l_elem (j := 1) (k := 0) ⟨by decide, by decide⟩ rfl h0 (by omega) (by omega) dL_law_401 dL_law_402 dL_law_403 dL_law_404 dL_law_405 ?_
  refine l_elem (j := 2) (k := 0) ⟨by decide, by decide⟩ rfl h0 (by omega) (by omega) dL_law_406 dL_law_407 dL_law_408 dL_law_409 dL_law_410 ?_
  refine l_VI (Yc := Y_X11_bundle) (ci := 11) (N := 28) (a := 399) (st := [.inl x1]) (As := [.inl (xs (i + ((1 : Nat) : Int)).toNat).toInt, .inl (xs (i + ((2 : Nat) : Int)).toNat).toInt]) rfl dL_law_411 lm_L_60 mc_X11_bundle mi_X11_bundle ms_X11_bundle (Nat.le_of_ble_eq_true rfl) (fits_of (by decide) (by show c0 + 0 + 0 ≤ 600000; omega) (by show s0 + 0 + 0 ≤ 7302250; omega)) cf_11.2.1 (by decide) ⟨by decide, by have := hF1.1; omega, St_399.2.2⟩ (CI_gx hg hF1 hq1) rfl rfl ?_
  intro x2 n2 μ2 hq
  obtain ⟨⟨he, hI2⟩, hF2⟩ := hq
  refine l_same (tgt := 752) dL_law_414 rfl he (l_wide ?_ ?_ (w n2 μ2 hF2 hI2))
  · show c0 + 0 + 0 ≤ c0 + 150
    omega
  · show s0 + 0 + 0 ≤ s0 + 900
    omega
theorem ca_419 (hg : gx G = fun _ _ => True) (hF : FX n μ) (hI : INV n μ) (h0 : 0 ≤ i) (h1 : i + 6 ≤ Ls) (hLs : Ls ≤ 3072) (hc : c0 + 150 ≤ 600000) (hs : s0 + 900 ≤ 7302250) (w : ∀ (n' : Nat) (ν : Mem), FX n' ν → INV n' ν → Wl G b Ls xs (c0 + 150) (s0 + 900) n' ν 752 (lL i) []) : Wl G b Ls xs c0 s0 n μ 419 (lL i) [] := by
  have hP : Pr (setX G FX) Y_X10_hop Y_X11_hop [.inl (xs (i + ((1 : Nat) : Int)).toNat).toInt, .inl (xs (i + ((2 : Nat) : Int)).toNat).toInt, .inl (xs (i + ((3 : Nat) : Int)).toNat).toInt] n μ := P_hop rfl (I_inR _) hI
  refine l_aload_n (k := 2) (by decide) dL_law_419 rfl rfl ?_
  refine l_elem (j := 1) (k := 0) ⟨by decide, by decide⟩ rfl h0 (by omega) (by omega) dL_law_420 dL_law_421 dL_law_422 dL_law_423 dL_law_424 ?_
  refine l_elem (j := 2) (k := 0) ⟨by decide, by decide⟩ rfl h0 (by omega) (by omega) dL_law_425 dL_law_426 dL_law_427 dL_law_428 dL_law_429 ?_
  refine l_elem (j := 3) (k := 0) ⟨by decide, by decide⟩ rfl h0 (by omega) (by omega) dL_law_430 dL_law_431 dL_law_432 dL_law_433 dL_law_434 ?_
  refine l_VI (Yc := Y_X10_hop) (ci := 10) (N := 12) (a := 0) (st := []) (As := [.inl (xs (i + ((1 : Nat) : Int)).toNat).toInt, .inl (xs (i + ((2 : Nat) : Int)).toNat).toInt, .inl (xs (i + ((3 : Nat) : Int)).toNat).toInt]) rfl dL_law_435 lm_L_61 mc_X10_hop mi_X10_hop ms_X10_hop (Nat.le_of_ble_eq_true rfl) (fits_of (by decide) (by show c0 + 0 ≤ 600000; omega) (by show s0 + 0 ≤ 7302250; omega)) cf_10.2.1 (by decide) ⟨by decide, by have := hF.1; omega, St_0.2.2⟩ (CI_gx hg hF hP) rfl rfl ?_
  intro x1 n1 μ1 hq
  obtain ⟨hq1, hF1⟩ := hq
  refine l_aload_n (k := 1) (by decide) dL_law_438 rfl rfl ?_
  refine l_elem (j := 1) (k := 0) ⟨by decide, by decide⟩ rfl h0 (by omega) (by omega) dL_law_439 dL_law_440 dL_law_441 dL_law_442 dL_law_443 ?_
  refine l_elem (j := 2) (k := 0) ⟨by decide, by decide⟩ rfl h0 (by omega) (by omega) dL_law_444 dL_law_445 dL_law_446 dL_law_447 dL_law_448 ?_
  refine l_elem (j := 3) (k := 0) ⟨by decide, by decide⟩ rfl h0 (by omega) (by omega) dL_law_449 dL_law_450 dL_law_451 dL_law_452 dL_law_453 ?_
  refine l_VI (Yc := Y_X11_hop) (ci := 11) (N := 28) (a := 399) (st := [.inl x1]) (As := [.inl (xs (i + ((1 : Nat) : Int)).toNat).toInt, .inl (xs (i + ((2 : Nat) : Int)).toNat).toInt, .inl (xs (i + ((3 : Nat) : Int)).toNat).toInt]) rfl dL_law_454 lm_L_65 mc_X11_hop mi_X11_hop ms_X11_hop (Nat.le_of_ble_eq_true rfl) (fits_of (by decide) (by show c0 + 0 + 0 ≤ 600000; omega) (by show s0 + 0 + 0 ≤ 7302250; omega)) cf_11.2.1 (by decide) ⟨by decide, by have := hF1.1; omega, St_399.2.2⟩ (CI_gx hg hF1 hq1) rfl rfl ?_
  intro x2 n2 μ2 hq
  obtain ⟨⟨he, hI2⟩, hF2⟩ := hq
  refine l_same (tgt := 752) dL_law_457 rfl he (l_wide ?_ ?_ (w n2 μ2 hF2 hI2))
  · show c0 + 0 + 0 ≤ c0 + 150
    omega
  · show s0 + 0 + 0 ≤ s0 + 900
    omega
end CasesL
