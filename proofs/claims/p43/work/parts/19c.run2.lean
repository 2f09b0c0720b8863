-- ===== RUNS of the law's methods and the JDK's keep their functions =====
theorem s151_l266 {sc : ZS} {d : Nat} {a2 : Int32} {r2 : Nat} {v10 : Int32} {r14 : Nat} {v42 : Int32} {k55 : ZI → ZF → ZY → Option (Option Nat × ZH)} (hk55 : ∀ (M49 : ZI) (R50 : ZF) (L51 : ZY) (u52 : Slot) (u53 : Slot) (u54 : Slot), zG sc (d + 78) 151 430 [.val (.ref 0), .val (.ref 1000000), .val (.int a2), .val (.ref r2), .val (.int v10), u52, .val (.ref r14), .val (.int v42), u53, u54, .unset, .unset, .unset] [] (M49, R50, L51) (k55 M49 R50 L51) gEo) : ∀ (n : Nat) (x43 : Int32) (M46 : ZI) (R47 : ZF) (L48 : ZY) (u44 : Slot) (u45 : Slot), zG sc (d + 78) 151 266 [.val (.ref 0), .val (.ref 1000000), .val (.int a2), .val (.ref r2), .val (.int v10), u44, .val (.ref r14), .val (.int v42), .val (.int x43), u45, .unset, .unset, .unset] [] (M46, R47, L48) (g151_l266 sc a2 r2 v42 k55 n x43 M46 R47 L48) gEo := by
  intro n
  induction n with
  | zero => intros; exact zG_none
  | succ n ih =>
    intro x43 M46 R47 L48 u44 u45
    rw [g151_l266]
    refine zG_il8 (p := 268) d_151_266 rfl (zG_il7 (p := 270) d_151_268 rfl ?_)
    refine zG_cge (p1 := 430) (p2 := 273) d_151_270 (by decide) rfl ?_ ?_
    · exact hk55 M46 R47 L48 (u44) (.val (.int x43)) (u45)
    · refine zG_aln1 (p := 274) d_151_273 rfl (zG_iln2 (p := 275) d_151_274 rfl (zG_ic (p := 276) d_151_275 ci_2 rfl (zG_add (p := 277) d_151_276 rfl (zG_il8 (p := 279) d_151_277 rfl (zG_ic (p := 280) d_151_279 ci_3 rfl (zG_rem (p := 281) d_151_280 (by decide) rfl (zG_add (p := 282) d_151_281 rfl ?_)))))))
      refine zG_cS2i (p := 285) d_151_282 ow_151 rs2_14_118 kk_114 rfl s114 rfl rfl rfl rfl (fun v56 => ?_)
      refine zG_si (p := 288) d_151_285 cs_229 rfl (zG_il8 (p := 290) d_151_288 rfl (zG_mul (p := 291) d_151_290 rfl (zG_add (p := 292) d_151_291 rfl (zG_js5 (p := 294) d_151_292 rfl (fun x57 => ?_)))))
      refine zG_aln3 (p := 295) d_151_294 rfl (zG_grd fun hg58 => (zG_grb (p := 298) d_151_295 ow_151 gf2_14_46 hg58 rfl (fun r59 => ?_)))
      refine zG_il8 (p := 300) d_151_298 rfl (zG_bi (p := 302) d_151_300 cb_7 rfl (zG_grd fun hg60 => (zG_grd fun hg61 => (zG_ni (p := 304) d_151_302 hg60 hg61 rfl (fun r62 M63 R64 L65 => ?_)))))
      refine zG_dup (p := 305) d_151_304 rfl rfl (zG_ic (p := 306) d_151_305 ci_0 rfl (zG_il5 (p := 308) d_151_306 rfl (zG_ic (p := 309) d_151_308 ci_0 rfl (zG_bi (p := 311) d_151_309 cb_99 rfl (zG_cS3i (p := 314) d_151_311 ow_151 rs2_14_50 kk_115 rfl s115 rfl rfl rfl rfl (fun v66 => ?_))))))
      refine zG_grd fun hg67 => (zG_ist (p := 315) d_151_314 hg67 rfl (fun M68 => ?_))
      refine zG_dup (p := 316) d_151_315 rfl rfl (zG_ic (p := 317) d_151_316 ci_1 rfl (zG_il5 (p := 319) d_151_317 rfl (zG_ic (p := 320) d_151_319 ci_3 rfl (zG_shr (p := 321) d_151_320 rfl (zG_ic (p := 322) d_151_321 ci_0 rfl (zG_bi (p := 324) d_151_322 cb_24 rfl (zG_cS3i (p := 327) d_151_324 ow_151 rs2_14_50 kk_115 rfl s115 rfl rfl rfl rfl (fun v69 => ?_))))))))
      refine zG_grd fun hg70 => (zG_ist (p := 328) d_151_327 hg70 rfl (fun M71 => ?_))
      refine zG_dup (p := 329) d_151_328 rfl rfl (zG_ic (p := 330) d_151_329 ci_2 rfl (zG_il5 (p := 332) d_151_330 rfl (zG_ic (p := 333) d_151_332 ci_5 rfl (zG_shr (p := 334) d_151_333 rfl (zG_ic (p := 335) d_151_334 ci_0 rfl (zG_bi (p := 337) d_151_335 cb_12 rfl (zG_cS3i (p := 340) d_151_337 ow_151 rs2_14_50 kk_115 rfl s115 rfl rfl rfl rfl (fun v72 => ?_))))))))
      refine zG_grd fun hg73 => (zG_ist (p := 341) d_151_340 hg73 rfl (fun M74 => ?_))
      refine zG_dup (p := 342) d_151_341 rfl rfl (zG_ic (p := 343) d_151_342 ci_3 rfl (zG_ic (p := 344) d_151_343 ci_0 rfl (zG_grd fun hg75 => (zG_ist (p := 345) d_151_344 hg75 rfl (fun M76 => ?_)))))
      refine zG_dup (p := 346) d_151_345 rfl rfl (zG_ic (p := 347) d_151_346 ci_4 rfl (zG_ic (p := 348) d_151_347 ci_0 rfl (zG_grd fun hg77 => (zG_ist (p := 349) d_151_348 hg77 rfl (fun M78 => ?_)))))
      refine zG_dup (p := 350) d_151_349 rfl rfl (zG_ic (p := 351) d_151_350 ci_5 rfl (zG_ic (p := 352) d_151_351 ci_m1 rfl (zG_grd fun hg79 => (zG_ist (p := 353) d_151_352 hg79 rfl (fun M80 => ?_)))))
      refine zG_dup (p := 354) d_151_353 rfl rfl (zG_bi (p := 356) d_151_354 cb_6 rfl (zG_ic (p := 357) d_151_356 ci_0 rfl (zG_grd fun hg81 => (zG_ist (p := 358) d_151_357 hg81 rfl (fun M82 => ?_)))))
      refine zG_grd fun hg83 => (zG_grd fun hg84 => (zG_ast51 (p := 359) d_151_358 hg83 hg84 rfl (fun R85 => ?_)))
      refine zG_aln3 (p := 360) d_151_359 rfl (zG_grd fun hg86 => (zG_grb (p := 363) d_151_360 ow_151 gf2_14_46 hg86 rfl (fun r87 => ?_)))
      refine zG_il8 (p := 365) d_151_363 rfl (zG_grd fun hg88 => (zG_aa51 (p := 366) d_151_365 hg88 rfl (fun r89 => ?_)))
      refine zG_as9 (p := 368) d_151_366 rfl (zG_aln0 (p := 369) d_151_368 rfl (zG_al9 (p := 371) d_151_369 rfl (zG_ic (p := 372) d_151_371 ci_0 rfl (zG_grd fun hg90 => (zG_ia (p := 373) d_151_372 hg90 rfl (zG_al9 (p := 375) d_151_373 rfl (zG_ic (p := 376) d_151_375 ci_1 rfl ?_)))))))
      refine zG_grd fun hg91 => (zG_ia (p := 377) d_151_376 hg91 rfl (zG_grd fun hg92 => (zG_k2m (p := 380) hg92 kc_12 d_151_377 ow_151 rs2_14_141 kk_12 rfl (fun q hL => s12 hL) rfl rfl rfl rfl (fun v93 M94 => ?_))))
      try dsimp only
      refine zG_il8 (p := 382) d_151_380 rfl ?_
      refine zG_cne (p1 := 412) (p2 := 385) d_151_382 (by decide) rfl ?_ ?_
      · refine zG_null (p := 413) d_151_412 rfl ?_
        exact zG_retz d_151_413 rfl
      · refine zG_aln0 (p := 386) d_151_385 rfl (zG_il8 (p := 388) d_151_386 rfl (zG_ic (p := 389) d_151_388 ci_2 rfl (zG_k2m (p := 392) hg92 kc_92 d_151_389 ow_151 rs2_14_143 kk_92 rfl (fun q hL => s92 hL) rfl rfl rfl rfl (fun v95 M96 => ?_))))
        try dsimp only
        refine zG_si (p := 395) d_151_392 cs_999 rfl ?_
        refine zG_cne (p1 := 412) (p2 := 398) d_151_395 (by decide) rfl ?_ ?_
        · refine zG_null (p := 413) d_151_412 rfl ?_
          exact zG_retz d_151_413 rfl
        · refine zG_aln0 (p := 399) d_151_398 rfl (zG_ic (p := 400) d_151_399 ci_4 rfl (zG_il8 (p := 402) d_151_400 rfl (zG_al9 (p := 404) d_151_402 rfl (zG_ic (p := 405) d_151_404 ci_2 rfl (zG_grd fun hg97 => (zG_ia (p := 406) d_151_405 hg97 rfl (zG_k3m (p := 409) hg92 kc_15 d_151_406 ow_151 rs2_14_146 kk_15 rfl (fun q hL => s15 hL) rfl rfl rfl rfl (fun v98 M99 => ?_))))))))
          try dsimp only
          refine zG_zne (p1 := 414) (p2 := 412) d_151_409 (by decide) rfl ?_ ?_
          · refine zG_aln3 (p := 415) d_151_414 rfl (zG_dup (p := 416) d_151_415 rfl rfl (zG_gi (p := 419) d_151_416 ow_151 gf2_14_40 hg86 rfl (zG_ic (p := 420) d_151_419 ci_1 rfl (zG_add (p := 421) d_151_420 rfl (zG_pi (p := 424) d_151_421 ow_151 gf2_14_40 (Or.inl rfl) (Or.inl rfl) fo_151_10_7 hg86 rfl (fun M100 => ?_))))))
            refine zG_ii8 (p := 427) d_151_424 ci_1 rfl (zG_goto (p := 266) d_151_427 (by decide) ?_)
            exact ih (x43 + (1 : Int32)) M100 R85 L65 (.val (.int x57)) (.val (.ref r89))
          · refine zG_null (p := 413) d_151_412 rfl ?_
            exact zG_retz d_151_413 rfl

theorem s151_l433 {sc : ZS} {d : Nat} {a2 : Int32} {r2 : Nat} {v10 : Int32} {r14 : Nat} {v42 : Int32} {R102 : ZF} {L103 : ZY} {u104 : Slot} {k119 : ZI → Option (Option Nat × ZH)} (hk119 : ∀ (M113 : ZI) (u114 : Slot) (u115 : Slot) (u116 : Slot) (u117 : Slot) (u118 : Slot), zG sc (d + 78) 151 609 [.val (.ref 0), .val (.ref 1000000), .val (.int a2), .val (.ref r2), .val (.int v10), u104, .val (.ref r14), .val (.int v42), u114, u115, u116, u117, u118] [] (M113, R102, L103) (k119 M113) gEo) : ∀ (n : Nat) (x107 : Int32) (M112 : ZI) (u108 : Slot) (u109 : Slot) (u110 : Slot) (u111 : Slot), zG sc (d + 78) 151 433 [.val (.ref 0), .val (.ref 1000000), .val (.int a2), .val (.ref r2), .val (.int v10), u104, .val (.ref r14), .val (.int v42), .val (.int x107), u108, u109, u110, u111] [] (M112, R102, L103) (g151_l433 sc a2 r2 v10 v42 R102 L103 k119 n x107 M112) gEo := by
  intro n
  induction n with
  | zero => intros; exact zG_none
  | succ n ih =>
    intro x107 M112 u108 u109 u110 u111
    rw [g151_l433]
    refine zG_il8 (p := 435) d_151_433 rfl (zG_il4 (p := 437) d_151_435 rfl (zG_bi (p := 439) d_151_437 cb_7 rfl (zG_shr (p := 440) d_151_439 rfl (zG_ic (p := 441) d_151_440 ci_0 rfl (zG_bi (p := 443) d_151_441 cb_12 rfl (zG_cS3i (p := 446) d_151_443 ow_151 rs2_14_50 kk_115 rfl s115 rfl rfl rfl rfl (fun v120 => ?_)))))))
    refine zG_cge (p1 := 609) (p2 := 449) d_151_446 (by decide) rfl ?_ ?_
    · exact hk119 M112 (.val (.int x107)) (u108) (u109) (u110) (u111)
    · refine zG_il7 (p := 451) d_151_449 rfl (zG_ic (p := 452) d_151_451 ci_1 rfl ?_)
      refine zG_cle (p1 := 609) (p2 := 455) d_151_452 (by decide) rfl ?_ ?_
      · exact hk119 M112 (.val (.int x107)) (u108) (u109) (u110) (u111)
      · refine zG_aln1 (p := 456) d_151_455 rfl (zG_iln2 (p := 457) d_151_456 rfl (zG_ic (p := 458) d_151_457 ci_5 rfl (zG_add (p := 459) d_151_458 rfl (zG_cS2i (p := 462) d_151_459 ow_151 rs2_14_118 kk_114 rfl s114 rfl rfl rfl rfl (fun v121 => ?_)))))
        refine zG_il8 (p := 464) d_151_462 rfl (zG_ic (p := 465) d_151_464 ci_1 rfl (zG_add (p := 466) d_151_465 rfl (zG_mul (p := 467) d_151_466 rfl (zG_si (p := 470) d_151_467 cs_233 rfl (zG_il8 (p := 472) d_151_470 rfl (zG_mul (p := 473) d_151_472 rfl (zG_add (p := 474) d_151_473 rfl ?_)))))))
        refine zG_js9 (p := 476) d_151_474 rfl (fun x122 => ?_)
        refine zG_il9 (p := 478) d_151_476 rfl (zG_ic (p := 479) d_151_478 ci_0 rfl (zG_il7 (p := 481) d_151_479 rfl (zG_ic (p := 482) d_151_481 ci_1 rfl (zG_sub (p := 483) d_151_482 rfl (zG_cS3i (p := 486) d_151_483 ow_151 rs2_14_50 kk_115 rfl s115 rfl rfl rfl rfl (fun v123 => ?_))))))
        refine zG_is10 (p := 488) d_151_486 rfl (zG_il9 (p := 490) d_151_488 rfl (zG_ic (p := 491) d_151_490 ci_4 rfl (zG_shr (p := 492) d_151_491 rfl (zG_ic (p := 493) d_151_492 ci_0 rfl (zG_il7 (p := 495) d_151_493 rfl (zG_ic (p := 496) d_151_495 ci_1 rfl (zG_sub (p := 497) d_151_496 rfl ?_)))))))
        refine zG_cS3i (p := 500) d_151_497 ow_151 rs2_14_50 kk_115 rfl s115 rfl rfl rfl rfl (fun v124 => ?_)
        refine zG_is11 (p := 502) d_151_500 rfl (zG_aln3 (p := 503) d_151_502 rfl (zG_grd fun hg125 => (zG_grb (p := 506) d_151_503 ow_151 gf2_14_46 hg125 rfl (fun r126 => ?_))))
        refine zG_il10 (p := 508) d_151_506 rfl (zG_grd fun hg127 => (zG_aa51 (p := 509) d_151_508 hg127 rfl (fun r128 => ?_)))
        refine zG_bi (p := 511) d_151_509 cb_6 rfl (zG_grd fun hg129 => (zG_ia (p := 512) d_151_511 hg129 rfl (zG_il11 (p := 514) d_151_512 rfl (zG_shr (p := 515) d_151_514 rfl (zG_ic (p := 516) d_151_515 ci_1 rfl (zG_and (p := 517) d_151_516 rfl (zG_ic (p := 518) d_151_517 ci_1 rfl ?_)))))))
        refine zG_bind (σ := Unit) (β := Int32) (pj := 526) (lj := fun (b : Int32) (s : Unit) => [.val (.ref 0), .val (.ref 1000000), .val (.int a2), .val (.ref r2), .val (.int v10), u104, .val (.ref r14), .val (.int v42), .val (.int x107), .val (.int x122), .val (.int v123), .val (.int v124), u111]) (sj := fun b => [.int b]) (hj := fun b => (M112, R102, L103)) ?_ ?_
        · refine zG_cne (p1 := 525) (p2 := 521) d_151_518 (by decide) rfl ?_ ?_
          · refine zG_ic (p := 526) d_151_525 ci_0 rfl ?_
            exact zG_leaf (fun _ _ h => h ())
          · refine zG_ic (p := 522) d_151_521 ci_1 rfl (zG_goto (p := 526) d_151_522 (by decide) ?_)
            exact zG_leaf (fun _ _ h => h ())
        · rintro v130 _
          try dsimp only
          refine zG_is12 (p := 528) d_151_526 rfl (zG_aln0 (p := 529) d_151_528 rfl (zG_il10 (p := 531) d_151_529 rfl (zG_il11 (p := 533) d_151_531 rfl (zG_ic (p := 534) d_151_533 ci_1 rfl (zG_grd fun hg131 => (zG_k3m (p := 537) hg131 kc_18 d_151_534 ow_151 rs2_14_150 kk_18 rfl (fun q hL => s18 hL) rfl rfl rfl rfl (fun v132 M133 => ?_)))))))
          try dsimp only
          refine zG_il10 (p := 539) d_151_537 rfl (zG_il11 (p := 541) d_151_539 rfl ?_)
          refine zG_bind (σ := Unit) (β := Int32) (pj := 554) (lj := fun (b : Int32) (s : Unit) => [.val (.ref 0), .val (.ref 1000000), .val (.int a2), .val (.ref r2), .val (.int v10), u104, .val (.ref r14), .val (.int v42), .val (.int x107), .val (.int x122), .val (.int v123), .val (.int v124), .val (.int v130)]) (sj := fun b => [.int b, .int v132]) (hj := fun b => (M133, R102, L103)) ?_ ?_
          · refine zG_ceq (p1 := 553) (p2 := 544) d_151_541 (by decide) rfl ?_ ?_
            · refine zG_ic (p := 554) d_151_553 ci_0 rfl ?_
              exact zG_leaf (fun _ _ h => h ())
            · refine zG_il12 (p := 546) d_151_544 rfl ?_
              refine zG_zne (p1 := 553) (p2 := 549) d_151_546 (by decide) rfl ?_ ?_
              · refine zG_ic (p := 554) d_151_553 ci_0 rfl ?_
                exact zG_leaf (fun _ _ h => h ())
              · refine zG_ic (p := 550) d_151_549 ci_1 rfl (zG_goto (p := 554) d_151_550 (by decide) ?_)
                exact zG_leaf (fun _ _ h => h ())
          · rintro v134 _
            try dsimp only
            refine zG_ceq (p1 := 559) (p2 := 557) d_151_554 (by decide) rfl ?_ ?_
            · refine zG_il10 (p := 561) d_151_559 rfl (zG_il11 (p := 563) d_151_561 rfl ?_)
              refine zG_cne (p1 := 569) (p2 := 566) d_151_563 (by decide) rfl ?_ ?_
              · refine zG_aln3 (p := 570) d_151_569 rfl (zG_grb (p := 573) d_151_570 ow_151 gf2_14_46 hg125 rfl (fun r135 => ?_))
                refine zG_il10 (p := 575) d_151_573 rfl (zG_grd fun hg136 => (zG_aa51 (p := 576) d_151_575 hg136 rfl (fun r137 => ?_)))
                refine zG_bi (p := 578) d_151_576 cb_6 rfl (zG_dup2 (p := 579) d_151_578 rfl rfl rfl (zG_grd fun hg138 => (zG_ia (p := 580) d_151_579 hg138 rfl (zG_ic (p := 581) d_151_580 ci_1 rfl (zG_il11 (p := 583) d_151_581 rfl (zG_shl (p := 584) d_151_583 rfl (zG_or (p := 585) d_151_584 rfl ?_)))))))
                refine zG_ist (p := 586) d_151_585 hg138 rfl (fun M139 => ?_)
                refine zG_aln3 (p := 587) d_151_586 rfl (zG_grb (p := 590) d_151_587 ow_151 gf2_14_46 hg125 rfl (fun r140 => ?_))
                refine zG_il11 (p := 592) d_151_590 rfl (zG_grd fun hg141 => (zG_aa51 (p := 593) d_151_592 hg141 rfl (fun r142 => ?_)))
                refine zG_bi (p := 595) d_151_593 cb_6 rfl (zG_dup2 (p := 596) d_151_595 rfl rfl rfl (zG_grd fun hg143 => (zG_ia (p := 597) d_151_596 hg143 rfl (zG_ic (p := 598) d_151_597 ci_1 rfl (zG_il10 (p := 600) d_151_598 rfl (zG_shl (p := 601) d_151_600 rfl (zG_or (p := 602) d_151_601 rfl ?_)))))))
                refine zG_ist (p := 603) d_151_602 hg143 rfl (fun M144 => ?_)
                refine zG_ii8 (p := 606) d_151_603 ci_1 rfl (zG_goto (p := 433) d_151_606 (by decide) ?_)
                exact ih (x107 + (1 : Int32)) M144 (.val (.int x122)) (.val (.int v123)) (.val (.int v124)) (.val (.int v130))
              · refine zG_goto (p := 603) d_151_566 (by decide) (zG_ii8 (p := 606) d_151_603 ci_1 rfl (zG_goto (p := 433) d_151_606 (by decide) ?_))
                exact ih (x107 + (1 : Int32)) M133 (.val (.int x122)) (.val (.int v123)) (.val (.int v124)) (.val (.int v130))
            · refine zG_null (p := 558) d_151_557 rfl ?_
              exact zG_retz d_151_558 rfl

theorem s151 {sc : ZS} {d : Nat} {a2 : Int32} {M : ZI} {R : ZF} {L : ZY} : zG sc (d + 78) 151 0 [.val (.ref 0), .val (.ref 1000000), .val (.int a2), .unset, .unset, .unset, .unset, .unset, .unset, .unset, .unset, .unset, .unset] [] (M, R, L) (g151_land sc a2 M R L) gEo := by
  unfold g151_land
  refine zG_grd fun hg1 => (zG_no (p := 3) d_151_0 ow_151 nw_14_41 hg1 rfl (fun r2 M3 R4 L5 => ?_))
  refine zG_dup (p := 4) d_151_3 rfl rfl (zG_grd fun hg6 => (zG_cI0v (p := 7) hg6 d_151_4 ow_151 rs2_14_117 kk_97 rfl s97 rfl rfl rfl rfl (fun M7 R8 L9 => ?_)))
  try dsimp only
  refine zG_asn3 (p := 8) d_151_7 rfl (zG_aln1 (p := 9) d_151_8 rfl (zG_iln2 (p := 10) d_151_9 rfl (zG_cS2i (p := 13) d_151_10 ow_151 rs2_14_118 kk_114 rfl s114 rfl rfl rfl rfl (fun v10 => ?_))))
  refine zG_is4 (p := 15) d_151_13 rfl (zG_aln1 (p := 16) d_151_15 rfl (zG_iln2 (p := 17) d_151_16 rfl (zG_ic (p := 18) d_151_17 ci_1 rfl (zG_add (p := 19) d_151_18 rfl (zG_cS2i (p := 22) d_151_19 ow_151 rs2_14_118 kk_114 rfl s114 rfl rfl rfl rfl (fun v11 => ?_))))))
  refine zG_is5 (p := 24) d_151_22 rfl (zG_bi (p := 26) d_151_24 cb_7 rfl (zG_grd fun hg12 => (zG_grd fun hg13 => (zG_ni (p := 28) d_151_26 hg12 hg13 rfl (fun r14 M15 R16 L17 => ?_)))))
  refine zG_dup (p := 29) d_151_28 rfl rfl (zG_ic (p := 30) d_151_29 ci_0 rfl (zG_il5 (p := 32) d_151_30 rfl (zG_ic (p := 33) d_151_32 ci_0 rfl (zG_bi (p := 35) d_151_33 cb_60 rfl (zG_cS3i (p := 38) d_151_35 ow_151 rs2_14_50 kk_115 rfl s115 rfl rfl rfl rfl (fun v18 => ?_))))))
  refine zG_grd fun hg19 => (zG_ist (p := 39) d_151_38 hg19 rfl (fun M20 => ?_))
  refine zG_dup (p := 40) d_151_39 rfl rfl (zG_ic (p := 41) d_151_40 ci_1 rfl (zG_il5 (p := 43) d_151_41 rfl (zG_ic (p := 44) d_151_43 ci_3 rfl (zG_shr (p := 45) d_151_44 rfl (zG_ic (p := 46) d_151_45 ci_0 rfl (zG_ic (p := 47) d_151_46 ci_3 rfl (zG_cS3i (p := 50) d_151_47 ow_151 rs2_14_50 kk_115 rfl s115 rfl rfl rfl rfl (fun v21 => ?_))))))))
  refine zG_grd fun hg22 => (zG_ist (p := 51) d_151_50 hg22 rfl (fun M23 => ?_))
  refine zG_dup (p := 52) d_151_51 rfl rfl (zG_ic (p := 53) d_151_52 ci_2 rfl (zG_il5 (p := 55) d_151_53 rfl (zG_ic (p := 56) d_151_55 ci_5 rfl (zG_shr (p := 57) d_151_56 rfl (zG_ic (p := 58) d_151_57 ci_0 rfl (zG_bi (p := 60) d_151_58 cb_9 rfl (zG_cS3i (p := 63) d_151_60 ow_151 rs2_14_50 kk_115 rfl s115 rfl rfl rfl rfl (fun v24 => ?_))))))))
  refine zG_grd fun hg25 => (zG_ist (p := 64) d_151_63 hg25 rfl (fun M26 => ?_))
  refine zG_dup (p := 65) d_151_64 rfl rfl (zG_ic (p := 66) d_151_65 ci_3 rfl (zG_il5 (p := 68) d_151_66 rfl (zG_bi (p := 70) d_151_68 cb_6 rfl (zG_shr (p := 71) d_151_70 rfl (zG_ic (p := 72) d_151_71 ci_0 rfl (zG_ic (p := 73) d_151_72 ci_3 rfl (zG_cS3i (p := 76) d_151_73 ow_151 rs2_14_50 kk_115 rfl s115 rfl rfl rfl rfl (fun v27 => ?_))))))))
  refine zG_grd fun hg28 => (zG_ist (p := 77) d_151_76 hg28 rfl (fun M29 => ?_))
  refine zG_dup (p := 78) d_151_77 rfl rfl (zG_ic (p := 79) d_151_78 ci_4 rfl (zG_il5 (p := 81) d_151_79 rfl (zG_ic (p := 82) d_151_81 ci_4 rfl (zG_shr (p := 83) d_151_82 rfl (zG_ic (p := 84) d_151_83 ci_0 rfl (zG_bi (p := 86) d_151_84 cb_20 rfl (zG_cS3i (p := 89) d_151_86 ow_151 rs2_14_50 kk_115 rfl s115 rfl rfl rfl rfl (fun v30 => ?_))))))))
  refine zG_grd fun hg31 => (zG_ist (p := 90) d_151_89 hg31 rfl (fun M32 => ?_))
  refine zG_dup (p := 91) d_151_90 rfl rfl (zG_ic (p := 92) d_151_91 ci_5 rfl (zG_il5 (p := 94) d_151_92 rfl (zG_bi (p := 96) d_151_94 cb_7 rfl (zG_shr (p := 97) d_151_96 rfl (zG_ic (p := 98) d_151_97 ci_0 rfl (zG_bi (p := 100) d_151_98 cb_6 rfl (zG_cS3i (p := 103) d_151_100 ow_151 rs2_14_50 kk_115 rfl s115 rfl rfl rfl rfl (fun v33 => ?_))))))))
  refine zG_grd fun hg34 => (zG_ist (p := 104) d_151_103 hg34 rfl (fun M35 => ?_))
  refine zG_dup (p := 105) d_151_104 rfl rfl (zG_bi (p := 107) d_151_105 cb_6 rfl (zG_il5 (p := 109) d_151_107 rfl (zG_ic (p := 110) d_151_109 ci_2 rfl (zG_shr (p := 111) d_151_110 rfl (zG_ic (p := 112) d_151_111 ci_0 rfl (zG_bi (p := 114) d_151_112 cb_60 rfl (zG_cS3i (p := 117) d_151_114 ow_151 rs2_14_50 kk_115 rfl s115 rfl rfl rfl rfl (fun v36 => ?_))))))))
  refine zG_grd fun hg37 => (zG_ist (p := 118) d_151_117 hg37 rfl (fun M38 => ?_))
  refine zG_as6 (p := 120) d_151_118 rfl (zG_il4 (p := 122) d_151_120 rfl (zG_ic (p := 123) d_151_122 ci_3 rfl (zG_shr (p := 124) d_151_123 rfl (zG_bi (p := 126) d_151_124 cb_7 rfl (zG_and (p := 127) d_151_126 rfl ?_)))))
  refine zG_jn (P := fun g => ∀ (M39 : ZI) (R40 : ZF) (L41 : ZY), zG sc (d + 78) 151 251 [.val (.ref 0), .val (.ref 1000000), .val (.int a2), .val (.ref r2), .val (.int v10), .val (.int v11), .val (.ref r14), .unset, .unset, .unset, .unset, .unset, .unset] [] (M39, R40, L41) (g M39 R40 L41) gEo) ?_ (fun j181 hj181 => ?_)
  · intro M39 R40 L41
    try dsimp only
    refine zG_il4 (p := 253) d_151_251 rfl (zG_ic (p := 254) d_151_253 ci_5 rfl (zG_shr (p := 255) d_151_254 rfl (zG_ic (p := 256) d_151_255 ci_0 rfl (zG_bi (p := 258) d_151_256 cb_10 rfl (zG_cS3i (p := 261) d_151_258 ow_151 rs2_14_50 kk_115 rfl s115 rfl rfl rfl rfl (fun v42 => ?_))))))
    refine zG_is7 (p := 263) d_151_261 rfl (zG_ic (p := 264) d_151_263 ci_0 rfl (zG_is8 (p := 266) d_151_264 rfl ?_))
    refine s151_l266 (fun M101 R102 L103 u104 u105 u106 => ?_) zfu (0 : Int32) M39 R40 L41 (.val (.int v11)) (.unset)
    try dsimp only
    refine zG_ic (p := 431) d_151_430 ci_0 rfl (zG_is8 (p := 433) d_151_431 rfl ?_)
    refine s151_l433 (fun M145 u146 u147 u148 u149 u150 => ?_) zfu (0 : Int32) M101 (u106) (.unset) (.unset) (.unset)
    try dsimp only
    refine zG_aln3 (p := 610) d_151_609 rfl (zG_il4 (p := 612) d_151_610 rfl (zG_ic (p := 613) d_151_612 ci_4 rfl (zG_shr (p := 614) d_151_613 rfl (zG_ic (p := 615) d_151_614 ci_0 rfl (zG_bi (p := 617) d_151_615 cb_16 rfl (zG_cS3i (p := 620) d_151_617 ow_151 rs2_14_50 kk_115 rfl s115 rfl rfl rfl rfl (fun v151 => ?_)))))))
    refine zG_grd fun hg152 => (zG_pi (p := 623) d_151_620 ow_151 gf2_14_154 (Or.inl rfl) (Or.inl rfl) fo_151_10_2 hg152 rfl (fun M153 => ?_))
    refine zG_aln3 (p := 624) d_151_623 rfl (zG_il4 (p := 626) d_151_624 rfl (zG_bi (p := 628) d_151_626 cb_6 rfl (zG_shr (p := 629) d_151_628 rfl (zG_ic (p := 630) d_151_629 ci_0 rfl (zG_bi (p := 632) d_151_630 cb_6 rfl (zG_cS3i (p := 635) d_151_632 ow_151 rs2_14_50 kk_115 rfl s115 rfl rfl rfl rfl (fun v154 => ?_)))))))
    refine zG_pi (p := 638) d_151_635 ow_151 gf2_14_157 (Or.inl rfl) (Or.inl rfl) fo_151_10_3 hg152 rfl (fun M155 => ?_)
    refine zG_aln3 (p := 639) d_151_638 rfl (zG_il4 (p := 641) d_151_639 rfl (zG_bi (p := 643) d_151_641 cb_8 rfl (zG_shr (p := 644) d_151_643 rfl (zG_ic (p := 645) d_151_644 ci_1 rfl (zG_bi (p := 647) d_151_645 cb_24 rfl (zG_cS3i (p := 650) d_151_647 ow_151 rs2_14_50 kk_115 rfl s115 rfl rfl rfl rfl (fun v156 => ?_)))))))
    refine zG_pi (p := 653) d_151_650 ow_151 gf2_14_160 (Or.inl rfl) (Or.inl rfl) fo_151_10_4 hg152 rfl (fun M157 => ?_)
    refine zG_aln0 (p := 654) d_151_653 rfl (zG_ic (p := 655) d_151_654 ci_0 rfl (zG_ic (p := 656) d_151_655 ci_0 rfl (zG_aln3 (p := 657) d_151_656 rfl (zG_gi (p := 660) d_151_657 ow_151 gf2_14_154 hg152 rfl (zG_grd fun hg158 => (zG_k3m (p := 663) hg158 kc_15 d_151_660 ow_151 rs2_14_146 kk_15 rfl (fun q hL => s15 hL) rfl rfl rfl rfl (fun v159 M160 => ?_)))))))
    try dsimp only
    refine zG_zeq (p1 := 724) (p2 := 666) d_151_663 (by decide) rfl ?_ ?_
    · refine zG_null (p := 725) d_151_724 rfl ?_
      exact zG_retz d_151_725 rfl
    · refine zG_aln0 (p := 667) d_151_666 rfl (zG_ic (p := 668) d_151_667 ci_1 rfl (zG_ic (p := 669) d_151_668 ci_0 rfl (zG_aln3 (p := 670) d_151_669 rfl (zG_gi (p := 673) d_151_670 ow_151 gf2_14_157 hg152 rfl (zG_k3m (p := 676) hg158 kc_15 d_151_673 ow_151 rs2_14_146 kk_15 rfl (fun q hL => s15 hL) rfl rfl rfl rfl (fun v161 M162 => ?_))))))
      try dsimp only
      refine zG_zeq (p1 := 724) (p2 := 679) d_151_676 (by decide) rfl ?_ ?_
      · refine zG_null (p := 725) d_151_724 rfl ?_
        exact zG_retz d_151_725 rfl
      · refine zG_aln0 (p := 680) d_151_679 rfl (zG_ic (p := 681) d_151_680 ci_2 rfl (zG_ic (p := 682) d_151_681 ci_0 rfl (zG_aln3 (p := 683) d_151_682 rfl (zG_gi (p := 686) d_151_683 ow_151 gf2_14_160 hg152 rfl (zG_k3m (p := 689) hg158 kc_15 d_151_686 ow_151 rs2_14_146 kk_15 rfl (fun q hL => s15 hL) rfl rfl rfl rfl (fun v163 M164 => ?_))))))
        try dsimp only
        refine zG_zeq (p1 := 724) (p2 := 692) d_151_689 (by decide) rfl ?_ ?_
        · refine zG_null (p := 725) d_151_724 rfl ?_
          exact zG_retz d_151_725 rfl
        · refine zG_aln0 (p := 693) d_151_692 rfl (zG_aln3 (p := 694) d_151_693 rfl (zG_aln1 (p := 695) d_151_694 rfl (zG_iln2 (p := 696) d_151_695 rfl (zG_bi (p := 698) d_151_696 cb_6 rfl (zG_add (p := 699) d_151_698 rfl (zG_cS2i (p := 702) d_151_699 ow_151 rs2_14_118 kk_114 rfl s114 rfl rfl rfl rfl (fun v165 => ?_)))))))
          refine zG_cS3m (p := 705) d_151_702 ow_151 rs2_14_163 kk_116 rfl s116 rfl rfl rfl rfl (fun v166 M167 R168 L169 => ?_)
          try dsimp only
          refine zG_zeq (p1 := 724) (p2 := 708) d_151_705 (by decide) rfl ?_ ?_
          · refine zG_null (p := 725) d_151_724 rfl ?_
            exact zG_retz d_151_725 rfl
          · refine zG_aln0 (p := 709) d_151_708 rfl (zG_aln3 (p := 710) d_151_709 rfl (zG_aln1 (p := 711) d_151_710 rfl (zG_iln2 (p := 712) d_151_711 rfl (zG_bi (p := 714) d_151_712 cb_7 rfl (zG_add (p := 715) d_151_714 rfl (zG_cS2i (p := 718) d_151_715 ow_151 rs2_14_118 kk_114 rfl s114 rfl rfl rfl rfl (fun v170 => ?_)))))))
            refine zG_cS3m (p := 721) d_151_718 ow_151 rs2_14_167 kk_146 rfl s146 rfl rfl rfl rfl (fun v171 M172 R173 L174 => ?_)
            try dsimp only
            refine zG_zne (p1 := 726) (p2 := 724) d_151_721 (by decide) rfl ?_ ?_
            · refine zG_aln3 (p := 727) d_151_726 rfl (zG_aln1 (p := 728) d_151_727 rfl (zG_iln2 (p := 729) d_151_728 rfl (zG_bi (p := 731) d_151_729 cb_8 rfl (zG_add (p := 732) d_151_731 rfl (zG_cS2i (p := 735) d_151_732 ow_151 rs2_14_118 kk_114 rfl s114 rfl rfl rfl rfl (fun v175 => ?_))))))
              refine zG_grd fun hg176 => (zG_pi (p := 738) d_151_735 ow_151 gf2_14_170 (Or.inl rfl) (Or.inl rfl) fo_151_10_0 hg176 rfl (fun M177 => ?_))
              refine zG_aln0 (p := 739) d_151_738 rfl (zG_aln3 (p := 740) d_151_739 rfl (zG_gi (p := 743) d_151_740 ow_151 gf2_14_170 hg176 rfl (zG_grd fun hg178 => (zG_k1m (p := 746) hg178 kc_10 d_151_743 ow_151 rs2_14_173 kk_10 rfl (fun q hL => s10 hL) rfl rfl rfl rfl (fun v179 M180 => ?_)))))
              try dsimp only
              refine zG_pop (p := 747) d_151_746 rfl rfl (zG_aln3 (p := 748) d_151_747 rfl ?_)
              exact zG_reto d_151_748 rfl
            · refine zG_null (p := 725) d_151_724 rfl ?_
              exact zG_retz d_151_725 rfl
  · refine zG_zle (p1 := 251) (p2 := 130) d_151_127 (by decide) rfl ?_ ?_
    · exact hj181 M38 R16 L17
    · refine zG_aln3 (p := 131) d_151_130 rfl (zG_al6 (p := 133) d_151_131 rfl (zG_grd fun hg182 => (zG_grd fun hg183 => (zG_pr (p := 136) d_151_133 ow_151 gf2_14_122 fo_151_10_14 hg182 hg183 rfl (fun R184 => ?_)))))
      refine zG_aln0 (p := 137) d_151_136 rfl (zG_grd fun hg185 => (zG_no (p := 140) d_151_137 ow_151 nw_14_37 hg185 rfl (fun r186 M187 R188 L189 => ?_)))
      refine zG_dup (p := 141) d_151_140 rfl rfl (zG_grd fun hg190 => (zG_cI0v (p := 144) hg190 d_151_141 ow_151 rs2_14_39 kk_117 rfl s117 rfl rfl rfl rfl (fun M191 R192 L193 => ?_)))
      try dsimp only
      refine zG_ldcs (p := 146) d_151_144 ow_151 st_14_125 rfl rfl (zG_grd fun hg194 => (zG_cV1q (p := 149) (c := 11) ⟨ow_128, by decide, zdr_128⟩ hg194 d_151_146 ow_151 rs2_14_62 kk_128 vn_128 rfl s128 rfl rfl rfl rfl (fun r195 M196 R197 L198 => ?_)))
      try dsimp only
      refine zG_al6 (p := 151) d_151_149 rfl (zG_ic (p := 152) d_151_151 ci_2 rfl (zG_grd fun hg199 => (zG_ia (p := 153) d_151_152 hg199 rfl (zG_grd fun hg200 => (zG_cV1q (p := 156) (c := 11) ⟨ow_119, by decide, zdr_119⟩ hg200 d_151_153 ow_151 rs2_14_56 kk_119 vn_119 rfl s119 rfl rfl rfl rfl (fun r201 M202 R203 L204 => ?_))))))
      try dsimp only
      refine zG_ldcs (p := 158) d_151_156 ow_151 st_14_127 rfl rfl (zG_grd fun hg205 => (zG_cV1q (p := 161) (c := 11) ⟨ow_128, by decide, zdr_128⟩ hg205 d_151_158 ow_151 rs2_14_62 kk_128 vn_128 rfl s128 rfl rfl rfl rfl (fun r206 M207 R208 L209 => ?_)))
      try dsimp only
      refine zG_al6 (p := 163) d_151_161 rfl (zG_ic (p := 164) d_151_163 ci_0 rfl (zG_grd fun hg210 => (zG_ia (p := 165) d_151_164 hg210 rfl (zG_grd fun hg211 => (zG_cV1q (p := 168) (c := 11) ⟨ow_119, by decide, zdr_119⟩ hg211 d_151_165 ow_151 rs2_14_56 kk_119 vn_119 rfl s119 rfl rfl rfl rfl (fun r212 M213 R214 L215 => ?_))))))
      try dsimp only
      refine zG_ldcs (p := 170) d_151_168 ow_151 st_14_129 rfl rfl (zG_grd fun hg216 => (zG_cV1q (p := 173) (c := 11) ⟨ow_128, by decide, zdr_128⟩ hg216 d_151_170 ow_151 rs2_14_62 kk_128 vn_128 rfl s128 rfl rfl rfl rfl (fun r217 M218 R219 L220 => ?_)))
      try dsimp only
      refine zG_al6 (p := 175) d_151_173 rfl (zG_ic (p := 176) d_151_175 ci_1 rfl (zG_grd fun hg221 => (zG_ia (p := 177) d_151_176 hg221 rfl (zG_grd fun hg222 => (zG_cV1q (p := 180) (c := 11) ⟨ow_119, by decide, zdr_119⟩ hg222 d_151_177 ow_151 rs2_14_56 kk_119 vn_119 rfl s119 rfl rfl rfl rfl (fun r223 M224 R225 L226 => ?_))))))
      try dsimp only
      refine zG_ldcs (p := 182) d_151_180 ow_151 st_14_131 rfl rfl (zG_grd fun hg227 => (zG_cV1q (p := 185) (c := 11) ⟨ow_128, by decide, zdr_128⟩ hg227 d_151_182 ow_151 rs2_14_62 kk_128 vn_128 rfl s128 rfl rfl rfl rfl (fun r228 M229 R230 L231 => ?_)))
      try dsimp only
      refine zG_al6 (p := 187) d_151_185 rfl (zG_ic (p := 188) d_151_187 ci_3 rfl (zG_grd fun hg232 => (zG_ia (p := 189) d_151_188 hg232 rfl (zG_grd fun hg233 => (zG_cV1q (p := 192) (c := 11) ⟨ow_119, by decide, zdr_119⟩ hg233 d_151_189 ow_151 rs2_14_56 kk_119 vn_119 rfl s119 rfl rfl rfl rfl (fun r234 M235 R236 L237 => ?_))))))
      try dsimp only
      refine zG_ldcs (p := 194) d_151_192 ow_151 st_14_133 rfl rfl (zG_grd fun hg238 => (zG_cV1q (p := 197) (c := 11) ⟨ow_128, by decide, zdr_128⟩ hg238 d_151_194 ow_151 rs2_14_62 kk_128 vn_128 rfl s128 rfl rfl rfl rfl (fun r239 M240 R241 L242 => ?_)))
      try dsimp only
      refine zG_al6 (p := 199) d_151_197 rfl (zG_ic (p := 200) d_151_199 ci_4 rfl (zG_grd fun hg243 => (zG_ia (p := 201) d_151_200 hg243 rfl (zG_grd fun hg244 => (zG_cV1q (p := 204) (c := 11) ⟨ow_119, by decide, zdr_119⟩ hg244 d_151_201 ow_151 rs2_14_56 kk_119 vn_119 rfl s119 rfl rfl rfl rfl (fun r245 M246 R247 L248 => ?_))))))
      try dsimp only
      refine zG_ldcs (p := 206) d_151_204 ow_151 st_14_135 rfl rfl (zG_grd fun hg249 => (zG_cV1q (p := 209) (c := 11) ⟨ow_128, by decide, zdr_128⟩ hg249 d_151_206 ow_151 rs2_14_62 kk_128 vn_128 rfl s128 rfl rfl rfl rfl (fun r250 M251 R252 L253 => ?_)))
      try dsimp only
      refine zG_al6 (p := 211) d_151_209 rfl (zG_ic (p := 212) d_151_211 ci_5 rfl (zG_grd fun hg254 => (zG_ia (p := 213) d_151_212 hg254 rfl (zG_grd fun hg255 => (zG_cV1q (p := 216) (c := 11) ⟨ow_119, by decide, zdr_119⟩ hg255 d_151_213 ow_151 rs2_14_56 kk_119 vn_119 rfl s119 rfl rfl rfl rfl (fun r256 M257 R258 L259 => ?_))))))
      try dsimp only
      refine zG_ldcs (p := 218) d_151_216 ow_151 st_14_137 rfl rfl (zG_grd fun hg260 => (zG_cV1q (p := 221) (c := 11) ⟨ow_128, by decide, zdr_128⟩ hg260 d_151_218 ow_151 rs2_14_62 kk_128 vn_128 rfl s128 rfl rfl rfl rfl (fun r261 M262 R263 L264 => ?_)))
      try dsimp only
      refine zG_al6 (p := 223) d_151_221 rfl (zG_bi (p := 225) d_151_223 cb_6 rfl (zG_grd fun hg265 => (zG_ia (p := 226) d_151_225 hg265 rfl (zG_grd fun hg266 => (zG_cV1q (p := 229) (c := 11) ⟨ow_119, by decide, zdr_119⟩ hg266 d_151_226 ow_151 rs2_14_56 kk_119 vn_119 rfl s119 rfl rfl rfl rfl (fun r267 M268 R269 L270 => ?_))))))
      try dsimp only
      refine zG_ldcs (p := 231) d_151_229 ow_151 st_14_139 rfl rfl (zG_grd fun hg271 => (zG_cV1q (p := 234) (c := 11) ⟨ow_128, by decide, zdr_128⟩ hg271 d_151_231 ow_151 rs2_14_62 kk_128 vn_128 rfl s128 rfl rfl rfl rfl (fun r272 M273 R274 L275 => ?_)))
      try dsimp only
      refine zG_grd fun hg276 => (zG_cV0q (p := 237) (c := 11) ⟨ow_133, by decide, zdr_133⟩ hg276 d_151_234 ow_151 rs2_14_67 kk_133 vn_133 rfl s133 rfl rfl rfl rfl (fun r277 M278 R279 L280 => ?_))
      try dsimp only
      refine zG_cS2v (p := 240) d_151_237 ow_151 rs2_14_71 kk_145 rfl s145 rfl rfl rfl rfl (fun M281 R282 L283 => ?_)
      try dsimp only
      refine zG_aln0 (p := 241) d_151_240 rfl (zG_ic (p := 242) d_151_241 ci_0 rfl (zG_grd fun hg284 => (zG_k1m (p := 245) hg284 kc_52 d_151_242 ow_151 rs2_14_75 kk_52 rfl (fun q hL => s52 hL) rfl rfl rfl rfl (fun v285 M286 => ?_))))
      try dsimp only
      refine zG_ic (p := 246) d_151_245 ci_5 rfl ?_
      refine zG_ceq (p1 := 251) (p2 := 249) d_151_246 (by decide) rfl ?_ ?_
      · exact hj181 M286 R282 L283
      · refine zG_null (p := 250) d_151_249 rfl ?_
        exact zG_retz d_151_250 rfl

theorem s152_l810 {sc : ZS} {d : Nat} {r14 : Nat} {x20 : Int32} {x52 : Int32} {v53 : Int32} {v55 : Int32} {v56 : Int32} {r57 : Nat} {r61 : Nat} {x62 : Int32} {x63 : Int32} {M64 : ZI} {L66 : ZY} {u68 : Slot} {u69 : Slot} {u70 : Slot} : ∀ (n : Nat) (x86 : Int32) (R87 : ZF), zG sc (d + 79) 152 810 [.val (.ref 1000000), .val (.ref 0), .val (.ref r61), .val (.ref r14), .val (.int x62), .val (.int x20), .val (.int x52), .val (.int v53), .val (.int v55), .val (.int v56), .val (.ref r57), .val (.int x63), .val (.int x86), u68, u69, u70] [] (M64, R87, L66) (g152_l810 r14 L66 n x86 R87) (gEj sc (d + 79) 152 833 (fun (b : ZF) (s : Slot) => [.val (.ref 1000000), .val (.ref 0), .val (.ref r61), .val (.ref r14), .val (.int x62), .val (.int x20), .val (.int x52), .val (.int v53), .val (.int v55), .val (.int v56), .val (.ref r57), .val (.int x63), s, u68, u69, u70]) (fun b => []) (fun b => (M64, b, L66))) := by
  intro n
  induction n with
  | zero => intros; exact zG_none
  | succ n ih =>
    intro x86 R87
    rw [g152_l810]
    refine zG_il12 (p := 812) d_152_810 rfl (zG_bi (p := 814) d_152_812 cb_6 rfl ?_)
    refine zG_cge (p1 := 833) (p2 := 817) d_152_814 (by decide) rfl ?_ ?_
    · exact zG_leaf (fun _ _ h => h (.val (.int x86)))
    · refine zG_aln3 (p := 818) d_152_817 rfl (zG_il12 (p := 820) d_152_818 rfl (zG_ic (p := 821) d_152_820 ci_1 rfl (zG_sub (p := 822) d_152_821 rfl (zG_aln3 (p := 823) d_152_822 rfl (zG_il12 (p := 825) d_152_823 rfl (zG_grd fun hg88 => (zG_aa52 (p := 826) d_152_825 hg88 rfl (fun r89 => ?_))))))))
      refine zG_grd fun hg90 => (zG_grd fun hg91 => (zG_ast52 (p := 827) d_152_826 hg90 hg91 rfl (fun R92 => ?_)))
      refine zG_ii12 (p := 830) d_152_827 ci_1 rfl (zG_goto (p := 810) d_152_830 (by decide) ?_)
      exact ih (x86 + (1 : Int32)) R92

theorem s152_l736 {sc : ZS} {d : Nat} {r14 : Nat} {r18 : Nat} {x19 : Int32} {x20 : Int32} {u28 : Slot} {u29 : Slot} {u30 : Slot} {x52 : Int32} {v53 : Int32} {v55 : Int32} {v56 : Int32} {r57 : Nat} {M106 : ZI} {L108 : ZY} : ∀ (n : Nat) (x109 : Int32) (R110 : ZF), zG sc (d + 79) 152 736 [.val (.ref 1000000), .val (.ref 0), .val (.ref r18), .val (.ref r14), .val (.int x19), .val (.int x20), .val (.int x52), .val (.int v53), .val (.int v55), .val (.int v56), .val (.ref r57), .val (.int (0 : Int32)), .val (.int x109), u28, u29, u30] [] (M106, R110, L108) (g152_l736 r14 r18 x19 L108 n x109 R110) (gEj sc (d + 79) 152 760 (fun (b : ZF) (s : Slot) => [.val (.ref 1000000), .val (.ref 0), .val (.ref r18), .val (.ref r14), .val (.int x19), .val (.int x20), .val (.int x52), .val (.int v53), .val (.int v55), .val (.int v56), .val (.ref r57), .val (.int (0 : Int32)), s, u28, u29, u30]) (fun b => []) (fun b => (M106, b, L108))) := by
  intro n
  induction n with
  | zero => intros; exact zG_none
  | succ n ih =>
    intro x109 R110
    rw [g152_l736]
    refine zG_il12 (p := 738) d_152_736 rfl (zG_il4 (p := 740) d_152_738 rfl ?_)
    refine zG_cge (p1 := 760) (p2 := 743) d_152_740 (by decide) rfl ?_ ?_
    · exact zG_leaf (fun _ _ h => h (.val (.int x109)))
    · refine zG_aln3 (p := 744) d_152_743 rfl (zG_il12 (p := 746) d_152_744 rfl (zG_grd fun hg111 => (zG_aa52 (p := 747) d_152_746 hg111 rfl (fun r112 => ?_))))
      refine zG_aln2 (p := 748) d_152_747 rfl (zG_grd fun hg113 => (zG_gro (p := 751) d_152_748 ow_152 gf2_14_108 hg113 rfl (zG_grd fun hg114 => (zG_grd fun hg115 => (zG_po (p := 754) d_152_751 ow_152 gf2_14_108 fo_152_10_13 hg114 hg115 rfl (fun R116 => ?_))))))
      refine zG_ii12 (p := 757) d_152_754 ci_1 rfl (zG_goto (p := 736) d_152_757 (by decide) ?_)
      exact ih (x109 + (1 : Int32)) R116

theorem s152_l179 {sc : ZS} {d : Nat} {r14 : Nat} {r18 : Nat} {x20 : Int32} {x52 : Int32} {v53 : Int32} {v55 : Int32} {v56 : Int32} {r57 : Nat} {v203 : Int32} {x204 : Int32} {x205 : Int32} {x206 : Int32} {M208 : ZI} {L210 : ZY} : ∀ (n : Nat) (x228 : Int32) (R229 : ZF), zG sc (d + 79) 152 179 [.val (.ref 1000000), .val (.ref 0), .val (.ref r18), .val (.ref r14), .val (.int x204), .val (.int x20), .val (.int x52), .val (.int v53), .val (.int v55), .val (.int v56), .val (.ref r57), .val (.int (0 : Int32)), .val (.int v203), .val (.int x205), .val (.int x206), .val (.int x228)] [] (M208, R229, L210) (g152_l179 r14 L210 n x228 R229) (gEj sc (d + 79) 152 202 (fun (b : ZF) (s : Slot) => [.val (.ref 1000000), .val (.ref 0), .val (.ref r18), .val (.ref r14), .val (.int x204), .val (.int x20), .val (.int x52), .val (.int v53), .val (.int v55), .val (.int v56), .val (.ref r57), .val (.int (0 : Int32)), .val (.int v203), .val (.int x205), .val (.int x206), s]) (fun b => []) (fun b => (M208, b, L210))) := by
  intro n
  induction n with
  | zero => intros; exact zG_none
  | succ n ih =>
    intro x228 R229
    rw [g152_l179]
    refine zG_il15 (p := 181) d_152_179 rfl (zG_bi (p := 183) d_152_181 cb_6 rfl ?_)
    refine zG_cge (p1 := 202) (p2 := 186) d_152_183 (by decide) rfl ?_ ?_
    · exact zG_leaf (fun _ _ h => h (.val (.int x228)))
    · refine zG_aln3 (p := 187) d_152_186 rfl (zG_il15 (p := 189) d_152_187 rfl (zG_ic (p := 190) d_152_189 ci_1 rfl (zG_sub (p := 191) d_152_190 rfl (zG_aln3 (p := 192) d_152_191 rfl (zG_il15 (p := 194) d_152_192 rfl (zG_grd fun hg230 => (zG_aa52 (p := 195) d_152_194 hg230 rfl (fun r231 => ?_))))))))
      refine zG_grd fun hg232 => (zG_grd fun hg233 => (zG_ast52 (p := 196) d_152_195 hg232 hg233 rfl (fun R234 => ?_)))
      refine zG_ii15 (p := 199) d_152_196 ci_1 rfl (zG_goto (p := 179) d_152_199 (by decide) ?_)
      exact ih (x228 + (1 : Int32)) R234

theorem s152_l162 {sc : ZS} {d : Nat} {r14 : Nat} {r18 : Nat} {x20 : Int32} {x52 : Int32} {v53 : Int32} {v55 : Int32} {v56 : Int32} {r57 : Nat} {v203 : Int32} : ∀ (n : Nat) (x204 : Int32) (x205 : Int32) (x206 : Int32) (M208 : ZI) (R209 : ZF) (L210 : ZY) (u207 : Slot), zG sc (d + 79) 152 162 [.val (.ref 1000000), .val (.ref 0), .val (.ref r18), .val (.ref r14), .val (.int x204), .val (.int x20), .val (.int x52), .val (.int v53), .val (.int v55), .val (.int v56), .val (.ref r57), .val (.int (0 : Int32)), .val (.int v203), .val (.int x205), .val (.int x206), u207] [] (M208, R209, L210) (g152_l162 r14 r18 v203 n x204 x205 x206 M208 R209 L210) (gEj sc (d + 79) 152 233 (fun (b : Int32 × Int32 × ZI × ZF × ZY) (s : Slot × Slot) => [.val (.ref 1000000), .val (.ref 0), .val (.ref r18), .val (.ref r14), .val (.int b.1), .val (.int x20), .val (.int x52), .val (.int v53), .val (.int v55), .val (.int v56), .val (.ref r57), .val (.int (0 : Int32)), .val (.int v203), .val (.int b.2.1), s.1, s.2]) (fun b => []) (fun b => (b.2.2.1, b.2.2.2.1, b.2.2.2.2))) := by
  intro n
  induction n with
  | zero => intros; exact zG_none
  | succ n ih =>
    intro x204 x205 x206 M208 R209 L210 u207
    rw [g152_l162]
    refine zG_il14 (p := 164) d_152_162 rfl (zG_il12 (p := 166) d_152_164 rfl ?_)
    refine zG_cge (p1 := 233) (p2 := 169) d_152_166 (by decide) rfl ?_ ?_
    · exact zG_leaf (fun _ _ h => h (.val (.int x206), u207))
    · refine zG_il4 (p := 171) d_152_169 rfl (zG_bi (p := 173) d_152_171 cb_6 rfl ?_)
      refine zG_jn (P := fun g => ∀ (x211 : Int32) (R212 : ZF) (u213 : Slot), zG sc (d + 79) 152 205 [.val (.ref 1000000), .val (.ref 0), .val (.ref r18), .val (.ref r14), .val (.int x211), .val (.int x20), .val (.int x52), .val (.int v53), .val (.int v55), .val (.int v56), .val (.ref r57), .val (.int (0 : Int32)), .val (.int v203), .val (.int x205), .val (.int x206), u213] [] (M208, R212, L210) (g x211 R212) (gEj sc (d + 79) 152 233 (fun (b : Int32 × Int32 × ZI × ZF × ZY) (s : Slot × Slot) => [.val (.ref 1000000), .val (.ref 0), .val (.ref r18), .val (.ref r14), .val (.int b.1), .val (.int x20), .val (.int x52), .val (.int v53), .val (.int v55), .val (.int v56), .val (.ref r57), .val (.int (0 : Int32)), .val (.int v203), .val (.int b.2.1), s.1, s.2]) (fun b => []) (fun b => (b.2.2.1, b.2.2.2.1, b.2.2.2.2)))) ?_ (fun j227 hj227 => ?_)
      · intro x211 R212 u213
        try dsimp only
        refine zG_aln3 (p := 206) d_152_205 rfl (zG_il4 (p := 208) d_152_206 rfl (zG_ii4 (p := 211) d_152_208 ci_1 rfl (zG_aln2 (p := 212) d_152_211 rfl (zG_grd fun hg214 => (zG_cV0q (p := 215) (c := 10) ⟨ow_91, by decide, zdr_91⟩ hg214 d_152_212 ow_152 rs2_14_184 kk_91 vn_91 rfl s91 rfl rfl rfl rfl (fun r215 M216 R217 L218 => ?_))))))
        try dsimp only
        refine zG_grd fun hg219 => (zG_grd fun hg220 => (zG_ast52 (p := 216) d_152_215 hg219 hg220 rfl (fun R221 => ?_)))
        refine zG_aln2 (p := 217) d_152_216 rfl (zG_ic (p := 218) d_152_217 ci_1 rfl (zG_grd fun hg222 => (zG_cV1m (p := 221) (c := 10) ⟨ow_98, by decide, zdr_98⟩ hg222 d_152_218 ow_152 rs2_14_188 kk_98 vn_98 rfl s98 rfl rfl rfl rfl (fun v223 M224 R225 L226 => ?_))))
        try dsimp only
        refine zG_zlt (p1 := 227) (p2 := 224) d_152_221 (by decide) rfl ?_ ?_
        · refine zG_ii14 (p := 230) d_152_227 ci_1 rfl (zG_goto (p := 162) d_152_230 (by decide) ?_)
          exact ih (x211 + (1 : Int32)) x205 (x206 + (1 : Int32)) M224 R225 L226 (u213)
        · refine zG_ii13 (p := 227) d_152_224 ci_1 rfl (zG_ii14 (p := 230) d_152_227 ci_1 rfl (zG_goto (p := 162) d_152_230 (by decide) ?_))
          exact ih (x211 + (1 : Int32)) (x205 + (1 : Int32)) (x206 + (1 : Int32)) M224 R225 L226 (u213)
      · refine zG_cne (p1 := 205) (p2 := 176) d_152_173 (by decide) rfl ?_ ?_
        · exact hj227 x204 R209 (u207)
        · refine zG_ic (p := 177) d_152_176 ci_1 rfl (zG_is15 (p := 179) d_152_177 rfl ?_)
          refine zG_bind (s152_l179 zfu (1 : Int32) R209) ?_
          rintro R235 u236
          try dsimp only
          refine zG_ii4 (p := 205) d_152_202 ci_m1 rfl ?_
          exact hj227 (x204 + (-1 : Int32)) R235 (u236)

theorem s152_l41 {sc : ZS} {d : Nat} {r14 : Nat} {k50 : Nat → ZI → ZF → ZY → Option (Int32 × ZH)} (hk50 : ∀ (r34 : Nat) (M35 : ZI) (R36 : ZF) (L37 : ZY) (u38 : Slot) (u39 : Slot) (u40 : Slot) (u41 : Slot) (u42 : Slot) (u43 : Slot) (u44 : Slot) (u45 : Slot) (u46 : Slot) (u47 : Slot) (u48 : Slot) (u49 : Slot), zG sc (d + 79) 152 872 [.val (.ref 1000000), .val (.ref 0), .val (.ref r34), .val (.ref r14), u38, u39, u40, u41, u42, u43, u44, u45, u46, u47, u48, u49] [] (M35, R36, L37) (k50 r34 M35 R36 L37) gEm) : ∀ (n : Nat) (r18 : Nat) (x19 : Int32) (x20 : Int32) (M31 : ZI) (R32 : ZF) (L33 : ZY) (u21 : Slot) (u22 : Slot) (u23 : Slot) (u24 : Slot) (u25 : Slot) (u26 : Slot) (u27 : Slot) (u28 : Slot) (u29 : Slot) (u30 : Slot), zG sc (d + 79) 152 41 [.val (.ref 1000000), .val (.ref 0), .val (.ref r18), .val (.ref r14), .val (.int x19), .val (.int x20), u21, u22, u23, u24, u25, u26, u27, u28, u29, u30] [] (M31, R32, L33) (g152_l41 sc r14 k50 n r18 x19 x20 M31 R32 L33) gEm := by
  intro n
  induction n with
  | zero => intros; exact zG_none
  | succ n ih =>
    intro r18 x19 x20 M31 R32 L33 u21 u22 u23 u24 u25 u26 u27 u28 u29 u30
    rw [g152_l41]
    refine zG_il5 (p := 43) d_152_41 rfl (zG_bi (p := 45) d_152_43 cb_20 rfl ?_)
    refine zG_cge (p1 := 872) (p2 := 48) d_152_45 (by decide) rfl ?_ ?_
    · exact hk50 r18 M31 R32 L33 (.val (.int x19)) (.val (.int x20)) (u21) (u22) (u23) (u24) (u25) (u26) (u27) (u28) (u29) (u30)
    · refine zG_aln0 (p := 49) d_152_48 rfl (zG_bi (p := 51) d_152_49 cb_9 rfl (zG_il5 (p := 53) d_152_51 rfl (zG_bi (p := 55) d_152_53 cb_12 rfl (zG_rem (p := 56) d_152_55 (by decide) rfl (zG_add (p := 57) d_152_56 rfl (zG_cS2i (p := 60) d_152_57 ow_152 rs2_14_118 kk_114 rfl s114 rfl rfl rfl rfl (fun v51 => ?_)))))))
      refine zG_il5 (p := 62) d_152_60 rfl (zG_bi (p := 64) d_152_62 cb_12 rfl (zG_div (p := 65) d_152_64 (by decide) rfl (zG_ic (p := 66) d_152_65 ci_1 rfl (zG_add (p := 67) d_152_66 rfl (zG_mul (p := 68) d_152_67 rfl (zG_si (p := 71) d_152_68 cs_151 rfl (zG_il5 (p := 73) d_152_71 rfl ?_)))))))
      refine zG_mul (p := 74) d_152_73 rfl (zG_add (p := 75) d_152_74 rfl (zG_js6 (p := 77) d_152_75 rfl (fun x52 => ?_)))
      refine zG_il6 (p := 79) d_152_77 rfl (zG_ic (p := 80) d_152_79 ci_0 rfl (zG_bi (p := 82) d_152_80 cb_11 rfl (zG_cS3i (p := 85) d_152_82 ow_152 rs2_14_50 kk_115 rfl s115 rfl rfl rfl rfl (fun v53 => ?_))))
      refine zG_is7 (p := 87) d_152_85 rfl (zG_il6 (p := 89) d_152_87 rfl (zG_ic (p := 90) d_152_89 ci_3 rfl (zG_shr (p := 91) d_152_90 rfl (zG_ic (p := 92) d_152_91 ci_0 rfl (zG_aln2 (p := 93) d_152_92 rfl (zG_grd fun hg54 => (zG_gi (p := 96) d_152_93 ow_152 gf2_14_40 hg54 rfl ?_)))))))
      refine zG_cS3i (p := 99) d_152_96 ow_152 rs2_14_50 kk_115 rfl s115 rfl rfl rfl rfl (fun v55 => ?_)
      refine zG_is8 (p := 101) d_152_99 rfl (zG_il6 (p := 103) d_152_101 rfl (zG_ic (p := 104) d_152_103 ci_5 rfl (zG_shr (p := 105) d_152_104 rfl (zG_ic (p := 106) d_152_105 ci_0 rfl (zG_aln2 (p := 107) d_152_106 rfl (zG_gi (p := 110) d_152_107 ow_152 gf2_14_40 hg54 rfl (zG_cS3i (p := 113) d_152_110 ow_152 rs2_14_50 kk_115 rfl s115 rfl rfl rfl rfl (fun v56 => ?_))))))))
      refine zG_is9 (p := 115) d_152_113 rfl (zG_aln2 (p := 116) d_152_115 rfl (zG_cV0q (p := 119) (c := 10) ⟨ow_91, by decide, zdr_91⟩ hg54 d_152_116 ow_152 rs2_14_184 kk_91 vn_91 rfl s91 rfl rfl rfl rfl (fun r57 M58 R59 L60 => ?_)))
      try dsimp only
      refine zG_as10 (p := 121) d_152_119 rfl (zG_ic (p := 122) d_152_121 ci_0 rfl (zG_is11 (p := 124) d_152_122 rfl (zG_il7 (p := 126) d_152_124 rfl (zG_ic (p := 127) d_152_126 ci_5 rfl ?_))))
      refine zG_jn (P := fun g => ∀ (r61 : Nat) (x62 : Int32) (x63 : Int32) (M64 : ZI) (R65 : ZF) (L66 : ZY) (u67 : Slot) (u68 : Slot) (u69 : Slot) (u70 : Slot), zG sc (d + 79) 152 795 [.val (.ref 1000000), .val (.ref 0), .val (.ref r61), .val (.ref r14), .val (.int x62), .val (.int x20), .val (.int x52), .val (.int v53), .val (.int v55), .val (.int v56), .val (.ref r57), .val (.int x63), u67, u68, u69, u70] [] (M64, R65, L66) (g r61 x62 x63 M64 R65 L66) gEm) ?_ (fun j98 hj98 => ?_)
      · intro r61 x62 x63 M64 R65 L66 u67 u68 u69 u70
        try dsimp only
        refine zG_il11 (p := 797) d_152_795 rfl ?_
        refine zG_jn (P := fun g => ∀ (x71 : Int32) (R72 : ZF) (u73 : Slot), zG sc (d + 79) 152 845 [.val (.ref 1000000), .val (.ref 0), .val (.ref r61), .val (.ref r14), .val (.int x71), .val (.int x20), .val (.int x52), .val (.int v53), .val (.int v55), .val (.int v56), .val (.ref r57), .val (.int x63), u73, u68, u69, u70] [] (M64, R72, L66) (g x71 R72) gEm) ?_ (fun j82 hj82 => ?_)
        · intro x71 R72 u73
          try dsimp only
          refine zG_aln1 (p := 846) d_152_845 rfl (zG_bi (p := 848) d_152_846 cb_14 rfl (zG_grd fun hg74 => (zG_k1m (p := 851) hg74 kc_143 d_152_848 ow_152 rs2_14_202 kk_143 rfl (fun q hL => s143 hL) rfl rfl rfl rfl (fun v75 M76 => ?_))))
          try dsimp only
          refine zG_il4 (p := 853) d_152_851 rfl ?_
          refine zG_cne (p1 := 864) (p2 := 856) d_152_853 (by decide) rfl ?_ ?_
          · refine zG_ic (p := 865) d_152_864 ci_0 rfl ?_
            exact zG_retmb d_152_865 rt_152 rfl
          · refine zG_aln2 (p := 857) d_152_856 rfl (zG_aln1 (p := 858) d_152_857 rfl (zG_grd fun hg77 => (zG_cV1m (p := 861) (c := 10) ⟨ow_113, by decide, zdr_113⟩ hg77 d_152_858 ow_152 rs2_14_180 kk_113 vn_113 rfl s113 rfl rfl rfl rfl (fun v78 M79 R80 L81 => ?_))))
            try dsimp only
            refine zG_zne (p1 := 866) (p2 := 864) d_152_861 (by decide) rfl ?_ ?_
            · refine zG_ii5 (p := 869) d_152_866 ci_1 rfl (zG_goto (p := 41) d_152_869 (by decide) ?_)
              exact ih r61 x71 (x20 + (1 : Int32)) M79 R80 L81 (.val (.int x52)) (.val (.int v53)) (.val (.int v55)) (.val (.int v56)) (.val (.ref r57)) (.val (.int x63)) (u73) (u68) (u69) (u70)
            · refine zG_ic (p := 865) d_152_864 ci_0 rfl ?_
              exact zG_retmb d_152_865 rt_152 rfl
        · refine zG_zeq (p1 := 845) (p2 := 800) d_152_797 (by decide) rfl ?_ ?_
          · exact hj82 x62 R65 (u67)
          · refine zG_il4 (p := 802) d_152_800 rfl (zG_bi (p := 804) d_152_802 cb_6 rfl ?_)
            refine zG_cne (p1 := 836) (p2 := 807) d_152_804 (by decide) rfl ?_ ?_
            · refine zG_aln3 (p := 837) d_152_836 rfl (zG_il4 (p := 839) d_152_837 rfl (zG_ii4 (p := 842) d_152_839 ci_1 rfl (zG_al10 (p := 844) d_152_842 rfl (zG_grd fun hg83 => (zG_grd fun hg84 => (zG_ast52 (p := 845) d_152_844 hg83 hg84 rfl (fun R85 => ?_)))))))
              exact hj82 (x62 + (1 : Int32)) R85 (u67)
            · refine zG_ic (p := 808) d_152_807 ci_1 rfl (zG_is12 (p := 810) d_152_808 rfl ?_)
              refine zG_bind (s152_l810 zfu (1 : Int32) R65) ?_
              rintro R93 u94
              try dsimp only
              refine zG_ii4 (p := 836) d_152_833 ci_m1 rfl (zG_aln3 (p := 837) d_152_836 rfl (zG_il4 (p := 839) d_152_837 rfl (zG_ii4 (p := 842) d_152_839 ci_1 rfl (zG_al10 (p := 844) d_152_842 rfl (zG_grd fun hg95 => (zG_grd fun hg96 => (zG_ast52 (p := 845) d_152_844 hg95 hg96 rfl (fun R97 => ?_))))))))
              exact hj82 ((x62 + (-1 : Int32)) + (1 : Int32)) R97 (u94)
      · refine zG_cge (p1 := 249) (p2 := 130) d_152_127 (by decide) rfl ?_ ?_
        · refine zG_il7 (p := 251) d_152_249 rfl (zG_ic (p := 252) d_152_251 ci_5 rfl ?_)
          refine zG_cne (p1 := 393) (p2 := 255) d_152_252 (by decide) rfl ?_ ?_
          · refine zG_il7 (p := 395) d_152_393 rfl (zG_bi (p := 397) d_152_395 cb_6 rfl ?_)
            refine zG_cne (p1 := 472) (p2 := 400) d_152_397 (by decide) rfl ?_ ?_
            · refine zG_il7 (p := 474) d_152_472 rfl (zG_bi (p := 476) d_152_474 cb_7 rfl ?_)
              refine zG_cne (p1 := 689) (p2 := 479) d_152_476 (by decide) rfl ?_ ?_
              · refine zG_il7 (p := 691) d_152_689 rfl (zG_bi (p := 693) d_152_691 cb_8 rfl ?_)
                refine zG_cne (p1 := 714) (p2 := 696) d_152_693 (by decide) rfl ?_ ?_
                · refine zG_il7 (p := 716) d_152_714 rfl (zG_bi (p := 718) d_152_716 cb_9 rfl ?_)
                  refine zG_cne (p1 := 763) (p2 := 721) d_152_718 (by decide) rfl ?_ ?_
                  · refine zG_aln1 (p := 764) d_152_763 rfl (zG_grd fun hg99 => (zG_k0m (p := 767) hg99 kc_138 d_152_764 ow_152 rs2_14_198 kk_138 rfl (fun q hL => s138 hL) rfl rfl rfl rfl (fun v100 M101 => ?_)))
                    try dsimp only
                    refine zG_il4 (p := 769) d_152_767 rfl ?_
                    refine zG_bind (σ := Unit) (β := Int32) (pj := 777) (lj := fun (b : Int32) (s : Unit) => [.val (.ref 1000000), .val (.ref 0), .val (.ref r18), .val (.ref r14), .val (.int x19), .val (.int x20), .val (.int x52), .val (.int v53), .val (.int v55), .val (.int v56), .val (.ref r57), .val (.int (0 : Int32)), u27, u28, u29, u30]) (sj := fun b => [.int b, .int v100]) (hj := fun b => (M101, R59, L60)) ?_ ?_
                    · refine zG_zle (p1 := 776) (p2 := 772) d_152_769 (by decide) rfl ?_ ?_
                      · refine zG_ic (p := 777) d_152_776 ci_0 rfl ?_
                        exact zG_leaf (fun _ _ h => h ())
                      · refine zG_ic (p := 773) d_152_772 ci_1 rfl (zG_goto (p := 777) d_152_773 (by decide) ?_)
                        exact zG_leaf (fun _ _ h => h ())
                    · rintro v102 _
                      try dsimp only
                      refine zG_ceq (p1 := 782) (p2 := 780) d_152_777 (by decide) rfl ?_ ?_
                      · refine zG_il4 (p := 784) d_152_782 rfl ?_
                        refine zG_zle (p1 := 795) (p2 := 787) d_152_784 (by decide) rfl ?_ ?_
                        · exact hj98 r18 x19 (0 : Int32) M101 R59 L60 (u27) (u28) (u29) (u30)
                        · refine zG_aln3 (p := 788) d_152_787 rfl (zG_ii4 (p := 791) d_152_788 ci_m1 rfl (zG_il4 (p := 793) d_152_791 rfl (zG_grd fun hg103 => (zG_aa52 (p := 794) d_152_793 hg103 rfl (fun r104 => ?_)))))
                          refine zG_asn2 (p := 795) d_152_794 rfl ?_
                          exact hj98 r104 (x19 + (-1 : Int32)) (0 : Int32) M101 R59 L60 (u27) (u28) (u29) (u30)
                      · refine zG_ic (p := 781) d_152_780 ci_0 rfl ?_
                        exact zG_retmb d_152_781 rt_152 rfl
                  · refine zG_aln1 (p := 722) d_152_721 rfl (zG_aln2 (p := 723) d_152_722 rfl (zG_il6 (p := 725) d_152_723 rfl (zG_cS3m (p := 728) d_152_725 ow_152 rs2_14_167 kk_146 rfl s146 rfl rfl rfl rfl (fun v105 M106 R107 L108 => ?_))))
                    try dsimp only
                    refine zG_zne (p1 := 733) (p2 := 731) d_152_728 (by decide) rfl ?_ ?_
                    · refine zG_ic (p := 734) d_152_733 ci_0 rfl (zG_is12 (p := 736) d_152_734 rfl ?_)
                      refine zG_bind (s152_l736 zfu (0 : Int32) R107) ?_
                      rintro R117 u118
                      try dsimp only
                      refine zG_goto (p := 795) d_152_760 (by decide) ?_
                      exact hj98 r18 x19 (0 : Int32) M106 R117 L108 (u118) (u28) (u29) (u30)
                    · refine zG_ic (p := 732) d_152_731 ci_0 rfl ?_
                      exact zG_retmb d_152_732 rt_152 rfl
                · refine zG_aln1 (p := 697) d_152_696 rfl (zG_aln2 (p := 698) d_152_697 rfl (zG_il6 (p := 700) d_152_698 rfl (zG_cS3m (p := 703) d_152_700 ow_152 rs2_14_163 kk_116 rfl s116 rfl rfl rfl rfl (fun v119 M120 R121 L122 => ?_))))
                  try dsimp only
                  refine zG_zne (p1 := 708) (p2 := 706) d_152_703 (by decide) rfl ?_ ?_
                  · refine zG_ic (p := 709) d_152_708 ci_0 rfl (zG_is4 (p := 711) d_152_709 rfl (zG_goto (p := 795) d_152_711 (by decide) ?_))
                    exact hj98 r18 (0 : Int32) (0 : Int32) M120 R121 L122 (u27) (u28) (u29) (u30)
                  · refine zG_ic (p := 707) d_152_706 ci_0 rfl ?_
                    exact zG_retmb d_152_707 rt_152 rfl
              · refine zG_il6 (p := 481) d_152_479 rfl (zG_ic (p := 482) d_152_481 ci_4 rfl (zG_shr (p := 483) d_152_482 rfl (zG_ic (p := 484) d_152_483 ci_0 rfl (zG_bi (p := 486) d_152_484 cb_6 rfl (zG_cS3i (p := 489) d_152_486 ow_152 rs2_14_50 kk_115 rfl s115 rfl rfl rfl rfl (fun v123 => ?_))))))
                refine zG_is12 (p := 491) d_152_489 rfl (zG_il6 (p := 493) d_152_491 rfl (zG_bi (p := 495) d_152_493 cb_6 rfl (zG_shr (p := 496) d_152_495 rfl (zG_ic (p := 497) d_152_496 ci_0 rfl (zG_bi (p := 499) d_152_497 cb_101 rfl (zG_cS3i (p := 502) d_152_499 ow_152 rs2_14_50 kk_115 rfl s115 rfl rfl rfl rfl (fun v124 => ?_)))))))
                refine zG_is13 (p := 504) d_152_502 rfl (zG_bi (p := 506) d_152_504 cb_7 rfl (zG_grd fun hg125 => (zG_grd fun hg126 => (zG_ni (p := 508) d_152_506 hg125 hg126 rfl (fun r127 M128 R129 L130 => ?_)))))
                refine zG_dup (p := 509) d_152_508 rfl rfl (zG_ic (p := 510) d_152_509 ci_0 rfl (zG_bi (p := 512) d_152_510 cb_24 rfl (zG_grd fun hg131 => (zG_ist (p := 513) d_152_512 hg131 rfl (fun M132 => ?_)))))
                refine zG_dup (p := 514) d_152_513 rfl rfl (zG_ic (p := 515) d_152_514 ci_1 rfl (zG_bi (p := 517) d_152_515 cb_24 rfl (zG_grd fun hg133 => (zG_ist (p := 518) d_152_517 hg133 rfl (fun M134 => ?_)))))
                refine zG_dup (p := 519) d_152_518 rfl rfl (zG_ic (p := 520) d_152_519 ci_2 rfl (zG_bi (p := 522) d_152_520 cb_24 rfl (zG_grd fun hg135 => (zG_ist (p := 523) d_152_522 hg135 rfl (fun M136 => ?_)))))
                refine zG_dup (p := 524) d_152_523 rfl rfl (zG_ic (p := 525) d_152_524 ci_3 rfl (zG_bi (p := 527) d_152_525 cb_24 rfl (zG_grd fun hg137 => (zG_ist (p := 528) d_152_527 hg137 rfl (fun M138 => ?_)))))
                refine zG_dup (p := 529) d_152_528 rfl rfl (zG_ic (p := 530) d_152_529 ci_4 rfl (zG_si (p := 533) d_152_530 cs_999 rfl (zG_grd fun hg139 => (zG_ist (p := 534) d_152_533 hg139 rfl (fun M140 => ?_)))))
                refine zG_dup (p := 535) d_152_534 rfl rfl (zG_ic (p := 536) d_152_535 ci_5 rfl (zG_bi (p := 538) d_152_536 cb_99 rfl (zG_grd fun hg141 => (zG_ist (p := 539) d_152_538 hg141 rfl (fun M142 => ?_)))))
                refine zG_dup (p := 540) d_152_539 rfl rfl (zG_bi (p := 542) d_152_540 cb_6 rfl (zG_ic (p := 543) d_152_542 ci_m1 rfl (zG_grd fun hg143 => (zG_ist (p := 544) d_152_543 hg143 rfl (fun M144 => ?_)))))
                refine zG_as14 (p := 546) d_152_544 rfl (zG_il13 (p := 548) d_152_546 rfl (zG_al14 (p := 550) d_152_548 rfl (zG_il12 (p := 552) d_152_550 rfl (zG_grd fun hg145 => (zG_ia (p := 553) d_152_552 hg145 rfl ?_)))))
                refine zG_bind (σ := Unit) (β := Int32) (pj := 587) (lj := fun (b : Int32) (s : Unit) => [.val (.ref 1000000), .val (.ref 0), .val (.ref r18), .val (.ref r14), .val (.int x19), .val (.int x20), .val (.int x52), .val (.int v53), .val (.int v55), .val (.int v56), .val (.ref r57), .val (.int (0 : Int32)), .val (.int v123), .val (.int v124), .val (.ref r127), u30]) (sj := fun b => [.int b]) (hj := fun b => (M144, R129, L130)) ?_ ?_
                · refine zG_cgt (p1 := 586) (p2 := 556) d_152_553 (by decide) rfl ?_ ?_
                  · refine zG_ic (p := 587) d_152_586 ci_0 rfl ?_
                    exact zG_leaf (fun _ _ h => h ())
                  · refine zG_il12 (p := 558) d_152_556 rfl (zG_ic (p := 559) d_152_558 ci_2 rfl ?_)
                    refine zG_jn (P := fun g => ∀ (_ : Unit), zG sc (d + 79) 152 567 [.val (.ref 1000000), .val (.ref 0), .val (.ref r18), .val (.ref r14), .val (.int x19), .val (.int x20), .val (.int x52), .val (.int v53), .val (.int v55), .val (.int v56), .val (.ref r57), .val (.int (0 : Int32)), .val (.int v123), .val (.int v124), .val (.ref r127), u30] [] (M144, R129, L130) (g ()) (gEj sc (d + 79) 152 587 (fun (b : Int32) (s : Unit) => [.val (.ref 1000000), .val (.ref 0), .val (.ref r18), .val (.ref r14), .val (.int x19), .val (.int x20), .val (.int x52), .val (.int v53), .val (.int v55), .val (.int v56), .val (.ref r57), .val (.int (0 : Int32)), .val (.int v123), .val (.int v124), .val (.ref r127), u30]) (fun b => [.int b]) (fun b => (M144, R129, L130)))) ?_ (fun j147 hj147 => ?_)
                    · intro _
                      try dsimp only
                      refine zG_il12 (p := 569) d_152_567 rfl (zG_ic (p := 570) d_152_569 ci_3 rfl ?_)
                      refine zG_clt (p1 := 582) (p2 := 573) d_152_570 (by decide) rfl ?_ ?_
                      · refine zG_ic (p := 583) d_152_582 ci_1 rfl (zG_goto (p := 587) d_152_583 (by decide) ?_)
                        exact zG_leaf (fun _ _ h => h ())
                      · refine zG_il8 (p := 575) d_152_573 rfl (zG_aln2 (p := 576) d_152_575 rfl (zG_grd fun hg146 => (zG_gi (p := 579) d_152_576 ow_152 gf2_14_40 hg146 rfl ?_)))
                        refine zG_cge (p1 := 586) (p2 := 582) d_152_579 (by decide) rfl ?_ ?_
                        · refine zG_ic (p := 587) d_152_586 ci_0 rfl ?_
                          exact zG_leaf (fun _ _ h => h ())
                        · refine zG_ic (p := 583) d_152_582 ci_1 rfl (zG_goto (p := 587) d_152_583 (by decide) ?_)
                          exact zG_leaf (fun _ _ h => h ())
                    · refine zG_cne (p1 := 567) (p2 := 562) d_152_559 (by decide) rfl ?_ ?_
                      · exact hj147 ()
                      · refine zG_il13 (p := 564) d_152_562 rfl ?_
                        refine zG_zle (p1 := 586) (p2 := 567) d_152_564 (by decide) rfl ?_ ?_
                        · refine zG_ic (p := 587) d_152_586 ci_0 rfl ?_
                          exact zG_leaf (fun _ _ h => h ())
                        · exact hj147 ()
                · rintro v148 _
                  try dsimp only
                  refine zG_is15 (p := 589) d_152_587 rfl (zG_aln1 (p := 590) d_152_589 rfl (zG_il12 (p := 592) d_152_590 rfl (zG_il8 (p := 594) d_152_592 rfl (zG_il13 (p := 596) d_152_594 rfl (zG_grd fun hg149 => (zG_k3m (p := 599) hg149 kc_15 d_152_596 ow_152 rs2_14_146 kk_15 rfl (fun q hL => s15 hL) rfl rfl rfl rfl (fun v150 M151 => ?_)))))))
                  try dsimp only
                  refine zG_il15 (p := 601) d_152_599 rfl ?_
                  refine zG_ceq (p1 := 606) (p2 := 604) d_152_601 (by decide) rfl ?_ ?_
                  · refine zG_il15 (p := 608) d_152_606 rfl ?_
                    refine zG_zeq (p1 := 686) (p2 := 611) d_152_608 (by decide) rfl ?_ ?_
                    · refine zG_goto (p := 795) d_152_686 (by decide) ?_
                      exact hj98 r18 x19 (0 : Int32) M151 R129 L130 (.val (.int v123)) (.val (.int v124)) (.val (.ref r127)) (.val (.int v148))
                    · refine zG_il12 (p := 613) d_152_611 rfl ?_
                      refine zG_bind (σ := Unit) (β := ZI) (pj := 622) (lj := fun (b : ZI) (s : Unit) => [.val (.ref 1000000), .val (.ref 0), .val (.ref r18), .val (.ref r14), .val (.int x19), .val (.int x20), .val (.int x52), .val (.int v53), .val (.int v55), .val (.int v56), .val (.ref r57), .val (.int (0 : Int32)), .val (.int v123), .val (.int v124), .val (.ref r127), .val (.int v148)]) (sj := fun b => []) (hj := fun b => (b, R129, L130)) ?_ ?_
                      · refine zG_zne (p1 := 622) (p2 := 616) d_152_613 (by decide) rfl ?_ ?_
                        · exact zG_leaf (fun _ _ h => h ())
                        · refine zG_aln2 (p := 617) d_152_616 rfl (zG_il13 (p := 619) d_152_617 rfl (zG_grd fun hg152 => (zG_pi (p := 622) d_152_619 ow_152 gf2_14_154 (Or.inl rfl) (Or.inl rfl) fo_152_10_2 hg152 rfl (fun M153 => ?_))))
                          exact zG_leaf (fun _ _ h => h ())
                      · rintro M154 _
                        try dsimp only
                        refine zG_il12 (p := 624) d_152_622 rfl (zG_ic (p := 625) d_152_624 ci_1 rfl ?_)
                        refine zG_bind (σ := Unit) (β := ZI) (pj := 634) (lj := fun (b : ZI) (s : Unit) => [.val (.ref 1000000), .val (.ref 0), .val (.ref r18), .val (.ref r14), .val (.int x19), .val (.int x20), .val (.int x52), .val (.int v53), .val (.int v55), .val (.int v56), .val (.ref r57), .val (.int (0 : Int32)), .val (.int v123), .val (.int v124), .val (.ref r127), .val (.int v148)]) (sj := fun b => []) (hj := fun b => (b, R129, L130)) ?_ ?_
                        · refine zG_cne (p1 := 634) (p2 := 628) d_152_625 (by decide) rfl ?_ ?_
                          · exact zG_leaf (fun _ _ h => h ())
                          · refine zG_aln2 (p := 629) d_152_628 rfl (zG_il13 (p := 631) d_152_629 rfl (zG_grd fun hg155 => (zG_pi (p := 634) d_152_631 ow_152 gf2_14_157 (Or.inl rfl) (Or.inl rfl) fo_152_10_3 hg155 rfl (fun M156 => ?_))))
                            exact zG_leaf (fun _ _ h => h ())
                        · rintro M157 _
                          try dsimp only
                          refine zG_il12 (p := 636) d_152_634 rfl (zG_ic (p := 637) d_152_636 ci_2 rfl ?_)
                          refine zG_bind (σ := Unit) (β := ZI) (pj := 646) (lj := fun (b : ZI) (s : Unit) => [.val (.ref 1000000), .val (.ref 0), .val (.ref r18), .val (.ref r14), .val (.int x19), .val (.int x20), .val (.int x52), .val (.int v53), .val (.int v55), .val (.int v56), .val (.ref r57), .val (.int (0 : Int32)), .val (.int v123), .val (.int v124), .val (.ref r127), .val (.int v148)]) (sj := fun b => []) (hj := fun b => (b, R129, L130)) ?_ ?_
                          · refine zG_cne (p1 := 646) (p2 := 640) d_152_637 (by decide) rfl ?_ ?_
                            · exact zG_leaf (fun _ _ h => h ())
                            · refine zG_aln2 (p := 641) d_152_640 rfl (zG_il13 (p := 643) d_152_641 rfl (zG_grd fun hg158 => (zG_pi (p := 646) d_152_643 ow_152 gf2_14_160 (Or.inl rfl) (Or.inl rfl) fo_152_10_4 hg158 rfl (fun M159 => ?_))))
                              exact zG_leaf (fun _ _ h => h ())
                          · rintro M160 _
                            try dsimp only
                            refine zG_il12 (p := 648) d_152_646 rfl (zG_ic (p := 649) d_152_648 ci_2 rfl ?_)
                            refine zG_cle (p1 := 683) (p2 := 652) d_152_649 (by decide) rfl ?_ ?_
                            · refine zG_ic (p := 684) d_152_683 ci_0 rfl (zG_is4 (p := 686) d_152_684 rfl (zG_goto (p := 795) d_152_686 (by decide) ?_))
                              exact hj98 r18 (0 : Int32) (0 : Int32) M160 R129 L130 (.val (.int v123)) (.val (.int v124)) (.val (.ref r127)) (.val (.int v148))
                            · refine zG_aln2 (p := 653) d_152_652 rfl (zG_grd fun hg161 => (zG_grb (p := 656) d_152_653 ow_152 gf2_14_46 hg161 rfl (fun r162 => ?_)))
                              refine zG_il8 (p := 658) d_152_656 rfl (zG_grd fun hg163 => (zG_aa51 (p := 659) d_152_658 hg163 rfl (fun r164 => ?_)))
                              refine zG_il12 (p := 661) d_152_659 rfl (zG_ic (p := 662) d_152_661 ci_3 rfl ?_)
                              refine zG_cne (p1 := 669) (p2 := 665) d_152_662 (by decide) rfl ?_ ?_
                              · refine zG_il12 (p := 671) d_152_669 rfl (zG_ic (p := 672) d_152_671 ci_4 rfl ?_)
                                refine zG_cne (p1 := 679) (p2 := 675) d_152_672 (by decide) rfl ?_ ?_
                                · refine zG_ic (p := 680) d_152_679 ci_0 rfl (zG_il13 (p := 682) d_152_680 rfl (zG_grd fun hg165 => (zG_ist (p := 683) d_152_682 hg165 rfl (fun M166 => ?_))))
                                  refine zG_ic (p := 684) d_152_683 ci_0 rfl (zG_is4 (p := 686) d_152_684 rfl (zG_goto (p := 795) d_152_686 (by decide) ?_))
                                  exact hj98 r18 (0 : Int32) (0 : Int32) M166 R129 L130 (.val (.int v123)) (.val (.int v124)) (.val (.ref r127)) (.val (.int v148))
                                · refine zG_ic (p := 676) d_152_675 ci_2 rfl (zG_goto (p := 680) d_152_676 (by decide) (zG_il13 (p := 682) d_152_680 rfl (zG_grd fun hg167 => (zG_ist (p := 683) d_152_682 hg167 rfl (fun M168 => ?_)))))
                                  refine zG_ic (p := 684) d_152_683 ci_0 rfl (zG_is4 (p := 686) d_152_684 rfl (zG_goto (p := 795) d_152_686 (by decide) ?_))
                                  exact hj98 r18 (0 : Int32) (0 : Int32) M168 R129 L130 (.val (.int v123)) (.val (.int v124)) (.val (.ref r127)) (.val (.int v148))
                              · refine zG_ic (p := 666) d_152_665 ci_1 rfl (zG_goto (p := 680) d_152_666 (by decide) (zG_il13 (p := 682) d_152_680 rfl (zG_grd fun hg169 => (zG_ist (p := 683) d_152_682 hg169 rfl (fun M170 => ?_)))))
                                refine zG_ic (p := 684) d_152_683 ci_0 rfl (zG_is4 (p := 686) d_152_684 rfl (zG_goto (p := 795) d_152_686 (by decide) ?_))
                                exact hj98 r18 (0 : Int32) (0 : Int32) M170 R129 L130 (.val (.int v123)) (.val (.int v124)) (.val (.ref r127)) (.val (.int v148))
                  · refine zG_ic (p := 605) d_152_604 ci_0 rfl ?_
                    exact zG_retmb d_152_605 rt_152 rfl
            · refine zG_il6 (p := 402) d_152_400 rfl (zG_ic (p := 403) d_152_402 ci_4 rfl (zG_shr (p := 404) d_152_403 rfl (zG_ic (p := 405) d_152_404 ci_0 rfl (zG_bi (p := 407) d_152_405 cb_12 rfl (zG_cS3i (p := 410) d_152_407 ow_152 rs2_14_50 kk_115 rfl s115 rfl rfl rfl rfl (fun v171 => ?_))))))
              refine zG_is12 (p := 412) d_152_410 rfl (zG_il12 (p := 414) d_152_412 rfl ?_)
              refine zG_bind (σ := Unit) (β := Int32) (pj := 422) (lj := fun (b : Int32) (s : Unit) => [.val (.ref 1000000), .val (.ref 0), .val (.ref r18), .val (.ref r14), .val (.int x19), .val (.int x20), .val (.int x52), .val (.int v53), .val (.int v55), .val (.int v56), .val (.ref r57), .val (.int (0 : Int32)), .val (.int v171), u28, u29, u30]) (sj := fun b => [.int b]) (hj := fun b => (M58, R59, L60)) ?_ ?_
              · refine zG_zle (p1 := 421) (p2 := 417) d_152_414 (by decide) rfl ?_ ?_
                · refine zG_ic (p := 422) d_152_421 ci_0 rfl ?_
                  exact zG_leaf (fun _ _ h => h ())
                · refine zG_ic (p := 418) d_152_417 ci_1 rfl (zG_goto (p := 422) d_152_418 (by decide) ?_)
                  exact zG_leaf (fun _ _ h => h ())
              · rintro v172 _
                try dsimp only
                refine zG_is11 (p := 424) d_152_422 rfl (zG_il11 (p := 426) d_152_424 rfl ?_)
                refine zG_bind (σ := Unit) (β := ZI) (pj := 445) (lj := fun (b : ZI) (s : Unit) => [.val (.ref 1000000), .val (.ref 0), .val (.ref r18), .val (.ref r14), .val (.int x19), .val (.int x20), .val (.int x52), .val (.int v53), .val (.int v55), .val (.int v56), .val (.ref r57), .val (.int v172), .val (.int v171), u28, u29, u30]) (sj := fun b => []) (hj := fun b => (b, R59, L60)) ?_ ?_
                · refine zG_zeq (p1 := 445) (p2 := 429) d_152_426 (by decide) rfl ?_ ?_
                  · exact zG_leaf (fun _ _ h => h ())
                  · refine zG_aln2 (p := 430) d_152_429 rfl (zG_bi (p := 432) d_152_430 cb_24 rfl (zG_aln2 (p := 433) d_152_432 rfl (zG_grd fun hg173 => (zG_gi (p := 436) d_152_433 ow_152 gf2_14_154 hg173 rfl (zG_il12 (p := 438) d_152_436 rfl (zG_add (p := 439) d_152_438 rfl (zG_min (p := 442) d_152_439 ow_152 rs2_14_8 rfl rfl ?_)))))))
                    refine zG_pi (p := 445) d_152_442 ow_152 gf2_14_154 (Or.inl rfl) (Or.inl rfl) fo_152_10_2 hg173 rfl (fun M174 => ?_)
                    exact zG_leaf (fun _ _ h => h ())
                · rintro M175 _
                  try dsimp only
                  refine zG_aln1 (p := 446) d_152_445 rfl (zG_il12 (p := 448) d_152_446 rfl (zG_grd fun hg176 => (zG_k1m (p := 451) hg176 kc_22 d_152_448 ow_152 rs2_14_195 kk_22 rfl (fun q hL => s22 hL) rfl rfl rfl rfl (fun v177 M178 => ?_))))
                  try dsimp only
                  refine zG_il11 (p := 453) d_152_451 rfl ?_
                  refine zG_bind (σ := Unit) (β := Int32) (pj := 464) (lj := fun (b : Int32) (s : Unit) => [.val (.ref 1000000), .val (.ref 0), .val (.ref r18), .val (.ref r14), .val (.int x19), .val (.int x20), .val (.int x52), .val (.int v53), .val (.int v55), .val (.int v56), .val (.ref r57), .val (.int v172), .val (.int v171), u28, u29, u30]) (sj := fun b => [.int b, .int v177]) (hj := fun b => (M178, R59, L60)) ?_ ?_
                  · refine zG_zeq (p1 := 463) (p2 := 456) d_152_453 (by decide) rfl ?_ ?_
                    · refine zG_ic (p := 464) d_152_463 ci_m1 rfl ?_
                      exact zG_leaf (fun _ _ h => h ())
                    · refine zG_aln2 (p := 457) d_152_456 rfl (zG_grd fun hg179 => (zG_gi (p := 460) d_152_457 ow_152 gf2_14_154 hg179 rfl (zG_goto (p := 464) d_152_460 (by decide) ?_)))
                      exact zG_leaf (fun _ _ h => h ())
                  · rintro v180 _
                    try dsimp only
                    refine zG_ceq (p1 := 469) (p2 := 467) d_152_464 (by decide) rfl ?_ ?_
                    · refine zG_goto (p := 795) d_152_469 (by decide) ?_
                      exact hj98 r18 x19 v172 M178 R59 L60 (.val (.int v171)) (u28) (u29) (u30)
                    · refine zG_ic (p := 468) d_152_467 ci_0 rfl ?_
                      exact zG_retmb d_152_468 rt_152 rfl
          · refine zG_il6 (p := 257) d_152_255 rfl (zG_bi (p := 259) d_152_257 cb_7 rfl (zG_shr (p := 260) d_152_259 rfl (zG_ic (p := 261) d_152_260 ci_1 rfl (zG_and (p := 262) d_152_261 rfl (zG_ic (p := 263) d_152_262 ci_1 rfl ?_)))))
            refine zG_bind (σ := Unit) (β := Int32) (pj := 271) (lj := fun (b : Int32) (s : Unit) => [.val (.ref 1000000), .val (.ref 0), .val (.ref r18), .val (.ref r14), .val (.int x19), .val (.int x20), .val (.int x52), .val (.int v53), .val (.int v55), .val (.int v56), .val (.ref r57), .val (.int (0 : Int32)), u27, u28, u29, u30]) (sj := fun b => [.int b]) (hj := fun b => (M58, R59, L60)) ?_ ?_
            · refine zG_cne (p1 := 270) (p2 := 266) d_152_263 (by decide) rfl ?_ ?_
              · refine zG_ic (p := 271) d_152_270 ci_0 rfl ?_
                exact zG_leaf (fun _ _ h => h ())
              · refine zG_ic (p := 267) d_152_266 ci_1 rfl (zG_goto (p := 271) d_152_267 (by decide) ?_)
                exact zG_leaf (fun _ _ h => h ())
            · rintro v181 _
              try dsimp only
              refine zG_is12 (p := 273) d_152_271 rfl (zG_il8 (p := 275) d_152_273 rfl (zG_aln2 (p := 276) d_152_275 rfl (zG_grd fun hg182 => (zG_gi (p := 279) d_152_276 ow_152 gf2_14_40 hg182 rfl ?_))))
              refine zG_bind (σ := Unit) (β := Int32) (pj := 332) (lj := fun (b : Int32) (s : Unit) => [.val (.ref 1000000), .val (.ref 0), .val (.ref r18), .val (.ref r14), .val (.int x19), .val (.int x20), .val (.int x52), .val (.int v53), .val (.int v55), .val (.int v56), .val (.ref r57), .val (.int (0 : Int32)), .val (.int v181), u28, u29, u30]) (sj := fun b => [.int b]) (hj := fun b => (M58, R59, L60)) ?_ ?_
              · refine zG_cge (p1 := 331) (p2 := 282) d_152_279 (by decide) rfl ?_ ?_
                · refine zG_ic (p := 332) d_152_331 ci_0 rfl ?_
                  exact zG_leaf (fun _ _ h => h ())
                · refine zG_il9 (p := 284) d_152_282 rfl (zG_aln2 (p := 285) d_152_284 rfl (zG_gi (p := 288) d_152_285 ow_152 gf2_14_40 hg182 rfl ?_))
                  refine zG_cge (p1 := 331) (p2 := 291) d_152_288 (by decide) rfl ?_ ?_
                  · refine zG_ic (p := 332) d_152_331 ci_0 rfl ?_
                    exact zG_leaf (fun _ _ h => h ())
                  · refine zG_il8 (p := 293) d_152_291 rfl (zG_il9 (p := 295) d_152_293 rfl ?_)
                    refine zG_ceq (p1 := 331) (p2 := 298) d_152_295 (by decide) rfl ?_ ?_
                    · refine zG_ic (p := 332) d_152_331 ci_0 rfl ?_
                      exact zG_leaf (fun _ _ h => h ())
                    · refine zG_aln2 (p := 299) d_152_298 rfl (zG_grb (p := 302) d_152_299 ow_152 gf2_14_46 hg182 rfl (fun r183 => ?_))
                      refine zG_il8 (p := 304) d_152_302 rfl (zG_grd fun hg184 => (zG_aa51 (p := 305) d_152_304 hg184 rfl (fun r185 => ?_)))
                      refine zG_bi (p := 307) d_152_305 cb_6 rfl (zG_grd fun hg186 => (zG_ia (p := 308) d_152_307 hg186 rfl (zG_il9 (p := 310) d_152_308 rfl (zG_shr (p := 311) d_152_310 rfl (zG_ic (p := 312) d_152_311 ci_1 rfl (zG_and (p := 313) d_152_312 rfl (zG_ic (p := 314) d_152_313 ci_1 rfl ?_)))))))
                      refine zG_bind (σ := Unit) (β := Int32) (pj := 322) (lj := fun (b : Int32) (s : Unit) => [.val (.ref 1000000), .val (.ref 0), .val (.ref r18), .val (.ref r14), .val (.int x19), .val (.int x20), .val (.int x52), .val (.int v53), .val (.int v55), .val (.int v56), .val (.ref r57), .val (.int (0 : Int32)), .val (.int v181), u28, u29, u30]) (sj := fun b => [.int b]) (hj := fun b => (M58, R59, L60)) ?_ ?_
                      · refine zG_cne (p1 := 321) (p2 := 317) d_152_314 (by decide) rfl ?_ ?_
                        · refine zG_ic (p := 322) d_152_321 ci_0 rfl ?_
                          exact zG_leaf (fun _ _ h => h ())
                        · refine zG_ic (p := 318) d_152_317 ci_1 rfl (zG_goto (p := 322) d_152_318 (by decide) ?_)
                          exact zG_leaf (fun _ _ h => h ())
                      · rintro v187 _
                        try dsimp only
                        refine zG_il12 (p := 324) d_152_322 rfl ?_
                        refine zG_ceq (p1 := 331) (p2 := 327) d_152_324 (by decide) rfl ?_ ?_
                        · refine zG_ic (p := 332) d_152_331 ci_0 rfl ?_
                          exact zG_leaf (fun _ _ h => h ())
                        · refine zG_ic (p := 328) d_152_327 ci_1 rfl (zG_goto (p := 332) d_152_328 (by decide) ?_)
                          exact zG_leaf (fun _ _ h => h ())
              · rintro v188 _
                try dsimp only
                refine zG_is11 (p := 334) d_152_332 rfl (zG_aln1 (p := 335) d_152_334 rfl (zG_il8 (p := 337) d_152_335 rfl (zG_il9 (p := 339) d_152_337 rfl (zG_il12 (p := 341) d_152_339 rfl (zG_grd fun hg189 => (zG_k3m (p := 344) hg189 kc_18 d_152_341 ow_152 rs2_14_150 kk_18 rfl (fun q hL => s18 hL) rfl rfl rfl rfl (fun v190 M191 => ?_)))))))
                try dsimp only
                refine zG_il11 (p := 346) d_152_344 rfl ?_
                refine zG_ceq (p1 := 351) (p2 := 349) d_152_346 (by decide) rfl ?_ ?_
                · refine zG_il11 (p := 353) d_152_351 rfl ?_
                  refine zG_zeq (p1 := 390) (p2 := 356) d_152_353 (by decide) rfl ?_ ?_
                  · refine zG_goto (p := 795) d_152_390 (by decide) ?_
                    exact hj98 r18 x19 v188 M191 R59 L60 (.val (.int v181)) (u28) (u29) (u30)
                  · refine zG_aln2 (p := 357) d_152_356 rfl (zG_grb (p := 360) d_152_357 ow_152 gf2_14_46 hg182 rfl (fun r192 => ?_))
                    refine zG_il8 (p := 362) d_152_360 rfl (zG_grd fun hg193 => (zG_aa51 (p := 363) d_152_362 hg193 rfl (fun r194 => ?_)))
                    refine zG_bi (p := 365) d_152_363 cb_6 rfl (zG_dup2 (p := 366) d_152_365 rfl rfl rfl (zG_grd fun hg195 => (zG_ia (p := 367) d_152_366 hg195 rfl (zG_ic (p := 368) d_152_367 ci_1 rfl (zG_il9 (p := 370) d_152_368 rfl (zG_shl (p := 371) d_152_370 rfl (zG_xor (p := 372) d_152_371 rfl ?_)))))))
                    refine zG_ist (p := 373) d_152_372 hg195 rfl (fun M196 => ?_)
                    refine zG_aln2 (p := 374) d_152_373 rfl (zG_grb (p := 377) d_152_374 ow_152 gf2_14_46 hg182 rfl (fun r197 => ?_))
                    refine zG_il9 (p := 379) d_152_377 rfl (zG_grd fun hg198 => (zG_aa51 (p := 380) d_152_379 hg198 rfl (fun r199 => ?_)))
                    refine zG_bi (p := 382) d_152_380 cb_6 rfl (zG_dup2 (p := 383) d_152_382 rfl rfl rfl (zG_grd fun hg200 => (zG_ia (p := 384) d_152_383 hg200 rfl (zG_ic (p := 385) d_152_384 ci_1 rfl (zG_il8 (p := 387) d_152_385 rfl (zG_shl (p := 388) d_152_387 rfl (zG_xor (p := 389) d_152_388 rfl ?_)))))))
                    refine zG_ist (p := 390) d_152_389 hg200 rfl (fun M201 => ?_)
                    refine zG_goto (p := 795) d_152_390 (by decide) ?_
                    exact hj98 r18 x19 v188 M201 R59 L60 (.val (.int v181)) (u28) (u29) (u30)
                · refine zG_ic (p := 350) d_152_349 ci_0 rfl ?_
                  exact zG_retmb d_152_350 rt_152 rfl
        · refine zG_il6 (p := 132) d_152_130 rfl (zG_ic (p := 133) d_152_132 ci_5 rfl (zG_shr (p := 134) d_152_133 rfl (zG_ic (p := 135) d_152_134 ci_1 rfl (zG_il6 (p := 137) d_152_135 rfl (zG_bi (p := 139) d_152_137 cb_9 rfl (zG_shr (p := 140) d_152_139 rfl (zG_ic (p := 141) d_152_140 ci_1 rfl ?_)))))))
          refine zG_and (p := 142) d_152_141 rfl ?_
          refine zG_bind (σ := Unit) (β := Int32) (pj := 151) (lj := fun (b : Int32) (s : Unit) => [.val (.ref 1000000), .val (.ref 0), .val (.ref r18), .val (.ref r14), .val (.int x19), .val (.int x20), .val (.int x52), .val (.int v53), .val (.int v55), .val (.int v56), .val (.ref r57), .val (.int (0 : Int32)), u27, u28, u29, u30]) (sj := fun b => [.int b, .int (1 : Int32), .int (zshr x52 (5 : Int32))]) (hj := fun b => (M58, R59, L60)) ?_ ?_
          · refine zG_zne (p1 := 149) (p2 := 145) d_152_142 (by decide) rfl ?_ ?_
            · refine zG_bi (p := 151) d_152_149 cb_15 rfl ?_
              exact zG_leaf (fun _ _ h => h ())
            · refine zG_ic (p := 146) d_152_145 ci_3 rfl (zG_goto (p := 151) d_152_146 (by decide) ?_)
              exact zG_leaf (fun _ _ h => h ())
          · rintro v202 _
            try dsimp only
            refine zG_cS3i (p := 154) d_152_151 ow_152 rs2_14_50 kk_115 rfl s115 rfl rfl rfl rfl (fun v203 => ?_)
            refine zG_is12 (p := 156) d_152_154 rfl (zG_ic (p := 157) d_152_156 ci_0 rfl (zG_is13 (p := 159) d_152_157 rfl (zG_ic (p := 160) d_152_159 ci_0 rfl (zG_is14 (p := 162) d_152_160 rfl ?_))))
            refine zG_bind (s152_l162 zfu x19 (0 : Int32) (0 : Int32) M58 R59 L60 (u30)) ?_
            rintro ⟨x237, x238, M239, R240, L241⟩ ⟨u242, u243⟩
            try dsimp only
            refine zG_aln1 (p := 234) d_152_233 rfl (zG_il12 (p := 236) d_152_234 rfl (zG_grd fun hg244 => (zG_k1m (p := 239) hg244 kc_24 d_152_236 ow_152 rs2_14_192 kk_24 rfl (fun q hL => s24 hL) rfl rfl rfl rfl (fun v245 M246 => ?_))))
            try dsimp only
            refine zG_il13 (p := 241) d_152_239 rfl ?_
            refine zG_ceq (p1 := 246) (p2 := 244) d_152_241 (by decide) rfl ?_ ?_
            · refine zG_goto (p := 795) d_152_246 (by decide) ?_
              exact hj98 r18 x237 (0 : Int32) M246 R240 L241 (.val (.int v203)) (.val (.int x238)) (u242) (u243)
            · refine zG_ic (p := 245) d_152_244 ci_0 rfl ?_
              exact zG_retmb d_152_245 rt_152 rfl

theorem s152 {sc : ZS} {d : Nat} {M : ZI} {R : ZF} {L : ZY} : zG sc (d + 79) 152 8 [.val (.ref 1000000), .val (.ref 0), .unset, .unset, .unset, .unset, .unset, .unset, .unset, .unset, .unset, .unset, .unset, .unset, .unset, .unset] [] (M, R, L) (g152_law sc M R L) gEm := by
  unfold g152_law
  refine zG_aln1 (p := 9) d_152_8 rfl (zG_aln0 (p := 10) d_152_9 rfl (zG_ic (p := 11) d_152_10 ci_0 rfl (zG_cS3o (p := 14) d_152_11 ow_152 rs2_14_176 kk_151 rfl s151 rfl rfl rfl rfl (fun w1 M2 R3 L4 => ?_))))
  try dsimp only
  refine zG_aqn2 (p := 15) d_152_14 rfl (zG_aon2 (p := 16) d_152_15 rfl ?_)
  refine zG_nuo (p1 := 27) (p2 := 19) d_152_16 (by decide) rfl (fun _ => ?_) (fun r5 hr6 => ?_)
  · refine zG_ic (p := 28) d_152_27 ci_0 rfl ?_
    exact zG_retmb d_152_28 rt_152 rfl
  · subst hr6
    refine zG_aln2 (p := 20) d_152_19 rfl (zG_aln1 (p := 21) d_152_20 rfl (zG_grd fun hg7 => (zG_cV1m (p := 24) (c := 10) ⟨ow_113, by decide, zdr_113⟩ hg7 d_152_21 ow_152 rs2_14_180 kk_113 vn_113 rfl s113 rfl rfl rfl rfl (fun v8 M9 R10 L11 => ?_))))
    try dsimp only
    refine zG_zne (p1 := 29) (p2 := 27) d_152_24 (by decide) rfl ?_ ?_
    · refine zG_bi (p := 31) d_152_29 cb_6 rfl (zG_grd fun hg12 => (zG_grd fun hg13 => (zG_nr52 (p := 34) d_152_31 ow_152 an_14_41 hg12 hg13 rfl (fun r14 M15 R16 L17 => ?_))))
      refine zG_asn3 (p := 35) d_152_34 rfl (zG_ic (p := 36) d_152_35 ci_0 rfl (zG_is4 (p := 38) d_152_36 rfl (zG_ic (p := 39) d_152_38 ci_0 rfl (zG_is5 (p := 41) d_152_39 rfl ?_))))
      refine s152_l41 (fun r247 M248 R249 L250 u251 u252 u253 u254 u255 u256 u257 u258 u259 u260 u261 u262 => ?_) zfu r5 (0 : Int32) (0 : Int32) M15 R16 L17 (.unset) (.unset) (.unset) (.unset) (.unset) (.unset) (.unset) (.unset) (.unset) (.unset)
      try dsimp only
      refine zG_aln1 (p := 873) d_152_872 rfl (zG_ic (p := 874) d_152_873 ci_0 rfl (zG_grd fun hg263 => (zG_k1m (p := 877) hg263 kc_24 d_152_874 ow_152 rs2_14_192 kk_24 rfl (fun q hL => s24 hL) rfl rfl rfl rfl (fun v264 M265 => ?_))))
      try dsimp only
      refine zG_ic (p := 878) d_152_877 ci_m1 rfl ?_
      refine zG_cne (p1 := 1033) (p2 := 881) d_152_878 (by decide) rfl ?_ ?_
      · refine zG_ic (p := 1034) d_152_1033 ci_0 rfl ?_
        exact zG_retmb d_152_1034 rt_152 rfl
      · refine zG_aln1 (p := 882) d_152_881 rfl (zG_bi (p := 884) d_152_882 cb_41 rfl (zG_k1m (p := 887) hg263 kc_24 d_152_884 ow_152 rs2_14_192 kk_24 rfl (fun q hL => s24 hL) rfl rfl rfl rfl (fun v266 M267 => ?_)))
        try dsimp only
        refine zG_ic (p := 888) d_152_887 ci_m1 rfl ?_
        refine zG_cne (p1 := 1033) (p2 := 891) d_152_888 (by decide) rfl ?_ ?_
        · refine zG_ic (p := 1034) d_152_1033 ci_0 rfl ?_
          exact zG_retmb d_152_1034 rt_152 rfl
        · refine zG_aln1 (p := 892) d_152_891 rfl (zG_bi (p := 894) d_152_892 cb_100 rfl (zG_ic (p := 895) d_152_894 ci_0 rfl (zG_k2m (p := 898) hg263 kc_12 d_152_895 ow_152 rs2_14_141 kk_12 rfl (fun q hL => s12 hL) rfl rfl rfl rfl (fun v268 M269 => ?_))))
          try dsimp only
          refine zG_ic (p := 899) d_152_898 ci_m1 rfl ?_
          refine zG_cne (p1 := 1033) (p2 := 902) d_152_899 (by decide) rfl ?_ ?_
          · refine zG_ic (p := 1034) d_152_1033 ci_0 rfl ?_
            exact zG_retmb d_152_1034 rt_152 rfl
          · refine zG_aln1 (p := 903) d_152_902 rfl (zG_ic (p := 904) d_152_903 ci_0 rfl (zG_bi (p := 906) d_152_904 cb_25 rfl (zG_k2m (p := 909) hg263 kc_12 d_152_906 ow_152 rs2_14_141 kk_12 rfl (fun q hL => s12 hL) rfl rfl rfl rfl (fun v270 M271 => ?_))))
            try dsimp only
            refine zG_ic (p := 910) d_152_909 ci_m1 rfl ?_
            refine zG_cne (p1 := 1033) (p2 := 913) d_152_910 (by decide) rfl ?_ ?_
            · refine zG_ic (p := 1034) d_152_1033 ci_0 rfl ?_
              exact zG_retmb d_152_1034 rt_152 rfl
            · refine zG_aln1 (p := 914) d_152_913 rfl (zG_ic (p := 915) d_152_914 ci_0 rfl (zG_ic (p := 916) d_152_915 ci_0 rfl (zG_ic (p := 917) d_152_916 ci_1 rfl (zG_k3m (p := 920) hg263 kc_18 d_152_917 ow_152 rs2_14_150 kk_18 rfl (fun q hL => s18 hL) rfl rfl rfl rfl (fun v272 M273 => ?_)))))
              try dsimp only
              refine zG_zne (p1 := 1033) (p2 := 923) d_152_920 (by decide) rfl ?_ ?_
              · refine zG_ic (p := 1034) d_152_1033 ci_0 rfl ?_
                exact zG_retmb d_152_1034 rt_152 rfl
              · refine zG_aln1 (p := 924) d_152_923 rfl (zG_ic (p := 925) d_152_924 ci_m1 rfl (zG_ic (p := 926) d_152_925 ci_0 rfl (zG_ic (p := 927) d_152_926 ci_1 rfl (zG_k3m (p := 930) hg263 kc_18 d_152_927 ow_152 rs2_14_150 kk_18 rfl (fun q hL => s18 hL) rfl rfl rfl rfl (fun v274 M275 => ?_)))))
                try dsimp only
                refine zG_zne (p1 := 1033) (p2 := 933) d_152_930 (by decide) rfl ?_ ?_
                · refine zG_ic (p := 1034) d_152_1033 ci_0 rfl ?_
                  exact zG_retmb d_152_1034 rt_152 rfl
                · refine zG_aln1 (p := 934) d_152_933 rfl (zG_bi (p := 936) d_152_934 cb_25 rfl (zG_k1m (p := 939) hg263 kc_22 d_152_936 ow_152 rs2_14_195 kk_22 rfl (fun q hL => s22 hL) rfl rfl rfl rfl (fun v276 M277 => ?_)))
                  try dsimp only
                  refine zG_ic (p := 940) d_152_939 ci_m1 rfl ?_
                  refine zG_cne (p1 := 1033) (p2 := 943) d_152_940 (by decide) rfl ?_ ?_
                  · refine zG_ic (p := 1034) d_152_1033 ci_0 rfl ?_
                    exact zG_retmb d_152_1034 rt_152 rfl
                  · refine zG_aln1 (p := 944) d_152_943 rfl (zG_ic (p := 945) d_152_944 ci_2 rfl (zG_ic (p := 946) d_152_945 ci_0 rfl (zG_ic (p := 947) d_152_946 ci_0 rfl (zG_k3m (p := 950) hg263 kc_15 d_152_947 ow_152 rs2_14_146 kk_15 rfl (fun q hL => s15 hL) rfl rfl rfl rfl (fun v278 M279 => ?_)))))
                    try dsimp only
                    refine zG_zne (p1 := 1033) (p2 := 953) d_152_950 (by decide) rfl ?_ ?_
                    · refine zG_ic (p := 1034) d_152_1033 ci_0 rfl ?_
                      exact zG_retmb d_152_1034 rt_152 rfl
                    · refine zG_aln1 (p := 954) d_152_953 rfl (zG_ic (p := 955) d_152_954 ci_2 rfl (zG_ic (p := 956) d_152_955 ci_0 rfl (zG_bi (p := 958) d_152_956 cb_25 rfl (zG_k3m (p := 961) hg263 kc_15 d_152_958 ow_152 rs2_14_146 kk_15 rfl (fun q hL => s15 hL) rfl rfl rfl rfl (fun v280 M281 => ?_)))))
                      try dsimp only
                      refine zG_zne (p1 := 1033) (p2 := 964) d_152_961 (by decide) rfl ?_ ?_
                      · refine zG_ic (p := 1034) d_152_1033 ci_0 rfl ?_
                        exact zG_retmb d_152_1034 rt_152 rfl
                      · refine zG_aln1 (p := 965) d_152_964 rfl (zG_ic (p := 966) d_152_965 ci_4 rfl (zG_aln2 (p := 967) d_152_966 rfl (zG_grd fun hg282 => (zG_gi (p := 970) d_152_967 ow_152 gf2_14_40 hg282 rfl (zG_ic (p := 971) d_152_970 ci_0 rfl (zG_k3m (p := 974) hg263 kc_15 d_152_971 ow_152 rs2_14_146 kk_15 rfl (fun q hL => s15 hL) rfl rfl rfl rfl (fun v283 M284 => ?_)))))))
                        try dsimp only
                        refine zG_zne (p1 := 1033) (p2 := 977) d_152_974 (by decide) rfl ?_ ?_
                        · refine zG_ic (p := 1034) d_152_1033 ci_0 rfl ?_
                          exact zG_retmb d_152_1034 rt_152 rfl
                        · refine zG_aln1 (p := 978) d_152_977 rfl (zG_ic (p := 979) d_152_978 ci_0 rfl (zG_bi (p := 981) d_152_979 cb_25 rfl (zG_ic (p := 982) d_152_981 ci_1 rfl (zG_k3m (p := 985) hg263 kc_94 d_152_982 ow_152 rs2_14_205 kk_94 rfl (fun q hL => s94 hL) rfl rfl rfl rfl (fun v285 M286 => ?_)))))
                          try dsimp only
                          refine zG_ic (p := 986) d_152_985 ci_m1 rfl ?_
                          refine zG_cne (p1 := 1033) (p2 := 989) d_152_986 (by decide) rfl ?_ ?_
                          · refine zG_ic (p := 1034) d_152_1033 ci_0 rfl ?_
                            exact zG_retmb d_152_1034 rt_152 rfl
                          · refine zG_aln1 (p := 990) d_152_989 rfl (zG_ic (p := 991) d_152_990 ci_0 rfl (zG_ic (p := 992) d_152_991 ci_m1 rfl (zG_ic (p := 993) d_152_992 ci_0 rfl (zG_k3m (p := 996) hg263 kc_94 d_152_993 ow_152 rs2_14_205 kk_94 rfl (fun q hL => s94 hL) rfl rfl rfl rfl (fun v287 M288 => ?_)))))
                            try dsimp only
                            refine zG_ic (p := 997) d_152_996 ci_m1 rfl ?_
                            refine zG_cne (p1 := 1033) (p2 := 1000) d_152_997 (by decide) rfl ?_ ?_
                            · refine zG_ic (p := 1034) d_152_1033 ci_0 rfl ?_
                              exact zG_retmb d_152_1034 rt_152 rfl
                            · refine zG_aln1 (p := 1001) d_152_1000 rfl (zG_ic (p := 1002) d_152_1001 ci_0 rfl (zG_ic (p := 1003) d_152_1002 ci_4 rfl (zG_k2i (p := 1006) hg263 kc_96 d_152_1003 ow_152 rs2_14_209 kk_96 rfl (fun q hL => s96 hL) rfl rfl rfl rfl (fun v289 => ?_))))
                              refine zG_bi (p := 1008) d_152_1006 cb_m2 rfl ?_
                              refine zG_cne (p1 := 1033) (p2 := 1011) d_152_1008 (by decide) rfl ?_ ?_
                              · refine zG_ic (p := 1034) d_152_1033 ci_0 rfl ?_
                                exact zG_retmb d_152_1034 rt_152 rfl
                              · refine zG_aln1 (p := 1012) d_152_1011 rfl (zG_bi (p := 1014) d_152_1012 cb_18 rfl (zG_k1m (p := 1017) hg263 kc_143 d_152_1014 ow_152 rs2_14_202 kk_143 rfl (fun q hL => s143 hL) rfl rfl rfl rfl (fun v290 M291 => ?_)))
                                try dsimp only
                                refine zG_ic (p := 1018) d_152_1017 ci_m1 rfl ?_
                                refine zG_cne (p1 := 1033) (p2 := 1021) d_152_1018 (by decide) rfl ?_ ?_
                                · refine zG_ic (p := 1034) d_152_1033 ci_0 rfl ?_
                                  exact zG_retmb d_152_1034 rt_152 rfl
                                · refine zG_aln2 (p := 1022) d_152_1021 rfl (zG_aln1 (p := 1023) d_152_1022 rfl (zG_cV1m (p := 1026) (c := 10) ⟨ow_113, by decide, zdr_113⟩ hg282 d_152_1023 ow_152 rs2_14_180 kk_113 vn_113 rfl s113 rfl rfl rfl rfl (fun v292 M293 R294 L295 => ?_)))
                                  try dsimp only
                                  refine zG_zeq (p1 := 1033) (p2 := 1029) d_152_1026 (by decide) rfl ?_ ?_
                                  · refine zG_ic (p := 1034) d_152_1033 ci_0 rfl ?_
                                    exact zG_retmb d_152_1034 rt_152 rfl
                                  · refine zG_ic (p := 1030) d_152_1029 ci_1 rfl (zG_goto (p := 1034) d_152_1030 (by decide) ?_)
                                    exact zG_retmb d_152_1034 rt_152 rfl
    · refine zG_ic (p := 28) d_152_27 ci_0 rfl ?_
      exact zG_retmb d_152_28 rt_152 rfl

