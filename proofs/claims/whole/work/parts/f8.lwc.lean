/-! THE LAW'S CASES -/
section LAWA
variable {G : pm_G} {H : fm_H} {Lo : Nat → Nat → Int32} {T x b o od sb L : Nat} {xs : Nat → Int32} {F Fd : Nat → Value} {m : fm_M} {z : Option Nat × Nat × Nat} {ini : Bool} {ret : Option FieldType} {KR : pm_E} {i : Int32}
/-- what comes after a case -/
def CK (G : pm_G) (H : fm_H) (Lo : Nat → Nat → Int32) (T x b o od sb L : Nat) (xs : Nat → Int32) (z : Option Nat × Nat × Nat) (ini : Bool) (ret : Option FieldType) (KR : pm_E) (i : Int32) : Prop := ∀ (T2 : Nat) (m2 : fm_M) (z2 : Option Nat × Nat × Nat) (F2 Fd2 : Nat → Value) (a c d e : Option Value), T2 ≤ T + 200 → TOP Lo T2 x b m2 → zz z z2 → lwF G ini ret KR 2204 (lwL sb x b o od i a c d e) [] (lwS H sb o od L xs F2 Fd2 m2 z2)
theorem cs_appendText (h : LW G H Lo x b o od sb L) (hT : TOP Lo T x b m) (hTT : T ≤ 200000) (hi : ∀ j : Int, 1 ≤ j → j ≤ 4 → vp_in (i + Int32.ofInt j) L) (k : CK G H Lo T x b o od sb L xs z ini ret KR i) : lwF G ini ret KR 200 (lwL sb x b o od i none none none none) [] (lwS H sb o od L xs F Fd m z) := by
  obtain ⟨w, m1, z1, F1, m2, r, c1, c2, hw, hF, hT2, hz⟩ := kc_appendText (sb := sb) (o := o) (od := od) (xs := xs) (F := F) (Fd := Fd) (z := z) h hT (xs (i + Int32.ofInt 1).toNatClampNeg)
  refine xw_fn 201 dL_law_200 rfl rfl ?_
  refine xl_sc 207 dL_law_201 dL_law_202 dL_law_204 dL_law_205 dL_law_206 rfl (lwS_s h) (hi 1 (by decide) (by decide)) ?_
  refine xw_fn 208 dL_law_207 rfl rfl ?_
  refine xw_cs (fl := true) (As := [.ref x, .int (xs (i + Int32.ofInt 1).toNatClampNeg), .ref o]) (rest := []) 211 dL_law_208 rfl is_L_114.1 is_L_114.2 rfl (Nat.le_of_ble_eq_true rfl) c1 ?_
  refine xl_s6 213 dL_law_211 rfl ?_
  refine xw_fn 214 dL_law_213 rfl rfl ?_
  refine xl_sc 220 dL_law_214 dL_law_215 dL_law_217 dL_law_218 dL_law_219 rfl (lwS_s h) (hi 1 (by decide) (by decide)) ?_
  refine xl_cr 223 (As := [.int (xs (i + Int32.ofInt 1).toNatClampNeg)]) (rest := []) h dL_law_220 rfl iv_L_119 rfl (Nat.le_of_ble_eq_true rfl) cn_12 c2 ?_
  refine xl_s7 225 dL_law_223 rfl ?_
  exact xl_tail h dL_law_225 dL_law_226 dL_law_229 dL_law_231 dL_law_236 dL_law_238 dL_law_241 dL_law_242 dL_law_243 dL_law_244 dL_law_246 dL_law_247 dL_law_248 dL_law_253 rfl hw hF (k T m2 z1 F1 Fd _ _ _ _ (Nat.le_add_right _ _) hT2 hz)
theorem cs_truncateText (h : LW G H Lo x b o od sb L) (hT : TOP Lo T x b m) (hTT : T ≤ 200000) (hi : ∀ j : Int, 1 ≤ j → j ≤ 4 → vp_in (i + Int32.ofInt j) L) (k : CK G H Lo T x b o od sb L xs z ini ret KR i) : lwF G ini ret KR 256 (lwL sb x b o od i none none none none) [] (lwS H sb o od L xs F Fd m z) := by
  obtain ⟨w, m1, z1, F1, m2, r, c1, c2, hw, hF, hT2, hz⟩ := kc_truncateText (sb := sb) (o := o) (od := od) (xs := xs) (F := F) (Fd := Fd) (z := z) h hT (xs (i + Int32.ofInt 1).toNatClampNeg)
  refine xw_fn 257 dL_law_256 rfl rfl ?_
  refine xl_sc 263 dL_law_257 dL_law_258 dL_law_260 dL_law_261 dL_law_262 rfl (lwS_s h) (hi 1 (by decide) (by decide)) ?_
  refine xw_fn 264 dL_law_263 rfl rfl ?_
  refine xw_cs (fl := true) (As := [.ref x, .int (xs (i + Int32.ofInt 1).toNatClampNeg), .ref o]) (rest := []) 267 dL_law_264 rfl is_L_124.1 is_L_124.2 rfl (Nat.le_of_ble_eq_true rfl) c1 ?_
  refine xl_s6 269 dL_law_267 rfl ?_
  refine xw_fn 270 dL_law_269 rfl rfl ?_
  refine xl_sc 276 dL_law_270 dL_law_271 dL_law_273 dL_law_274 dL_law_275 rfl (lwS_s h) (hi 1 (by decide) (by decide)) ?_
  refine xl_cr 279 (As := [.int (xs (i + Int32.ofInt 1).toNatClampNeg)]) (rest := []) h dL_law_276 rfl iv_L_126 rfl (Nat.le_of_ble_eq_true rfl) cn_12 c2 ?_
  refine xl_s7 281 dL_law_279 rfl ?_
  exact xl_tail h dL_law_281 dL_law_282 dL_law_285 dL_law_287 dL_law_292 dL_law_294 dL_law_297 dL_law_298 dL_law_299 dL_law_300 dL_law_302 dL_law_303 dL_law_304 dL_law_309 rfl hw hF (k T m2 z1 F1 Fd _ _ _ _ (Nat.le_add_right _ _) hT2 hz)
theorem cs_load (h : LW G H Lo x b o od sb L) (hT : TOP Lo T x b m) (hTT : T ≤ 200000) (hi : ∀ j : Int, 1 ≤ j → j ≤ 4 → vp_in (i + Int32.ofInt j) L) (k : CK G H Lo T x b o od sb L xs z ini ret KR i) : lwF G ini ret KR 312 (lwL sb x b o od i none none none none) [] (lwS H sb o od L xs F Fd m z) := by
  obtain ⟨m1, m2, r, c1, c2, hT2⟩ := kc_load (sb := sb) (o := o) (od := od) (xs := xs) (F := F) (Fd := Fd) (z := z) h hT
  refine xw_fn 313 dL_law_312 rfl rfl ?_
  refine xl_cc 316 (As := []) (rest := []) h dL_law_313 rfl iv_L_127 rfl (Nat.le_of_ble_eq_true rfl) cn_11 c1 ?_
  refine xw_fn 317 dL_law_316 rfl rfl ?_
  refine xl_cr 320 (As := []) (rest := [.int r]) h dL_law_317 rfl iv_L_130 rfl (Nat.le_of_ble_eq_true rfl) cn_12 c2 ?_
  exact xw_ceq_t 2204 dL_law_320 rfl rfl (k T m2 z F Fd _ _ _ _ (Nat.le_add_right _ _) hT2 zz_rf)
theorem cs_errorCode (h : LW G H Lo x b o od sb L) (hT : TOP Lo T x b m) (hTT : T ≤ 200000) (hi : ∀ j : Int, 1 ≤ j → j ≤ 4 → vp_in (i + Int32.ofInt j) L) (k : CK G H Lo T x b o od sb L xs z ini ret KR i) : lwF G ini ret KR 325 (lwL sb x b o od i none none none none) [] (lwS H sb o od L xs F Fd m z) := by
  obtain ⟨m1, m2, r, c1, c2, hT2⟩ := kc_errorCode (sb := sb) (o := o) (od := od) (xs := xs) (F := F) (Fd := Fd) (z := z) h hT
  refine xw_fn 326 dL_law_325 rfl rfl ?_
  refine xl_cc 329 (As := []) (rest := []) h dL_law_326 rfl iv_L_131 rfl (Nat.le_of_ble_eq_true rfl) cn_11 c1 ?_
  refine xw_fn 330 dL_law_329 rfl rfl ?_
  refine xl_cr 333 (As := []) (rest := [.int r]) h dL_law_330 rfl iv_L_134 rfl (Nat.le_of_ble_eq_true rfl) cn_12 c2 ?_
  exact xw_ceq_t 2204 dL_law_333 rfl rfl (k T m2 z F Fd _ _ _ _ (Nat.le_add_right _ _) hT2 zz_rf)
theorem cs_errorPosition (h : LW G H Lo x b o od sb L) (hT : TOP Lo T x b m) (hTT : T ≤ 200000) (hi : ∀ j : Int, 1 ≤ j → j ≤ 4 → vp_in (i + Int32.ofInt j) L) (k : CK G H Lo T x b o od sb L xs z ini ret KR i) : lwF G ini ret KR 338 (lwL sb x b o od i none none none none) [] (lwS H sb o od L xs F Fd m z) := by
  obtain ⟨m1, m2, r, c1, c2, hT2⟩ := kc_errorPosition (sb := sb) (o := o) (od := od) (xs := xs) (F := F) (Fd := Fd) (z := z) h hT
  refine xw_fn 339 dL_law_338 rfl rfl ?_
  refine xl_cc 342 (As := []) (rest := []) h dL_law_339 rfl iv_L_135 rfl (Nat.le_of_ble_eq_true rfl) cn_11 c1 ?_
  refine xw_fn 343 dL_law_342 rfl rfl ?_
  refine xl_cr 346 (As := []) (rest := [.int r]) h dL_law_343 rfl iv_L_138 rfl (Nat.le_of_ble_eq_true rfl) cn_12 c2 ?_
  exact xw_ceq_t 2204 dL_law_346 rfl rfl (k T m2 z F Fd _ _ _ _ (Nat.le_add_right _ _) hT2 zz_rf)
theorem cs_addNode (h : LW G H Lo x b o od sb L) (hT : TOP Lo T x b m) (hTT : T ≤ 200000) (hi : ∀ j : Int, 1 ≤ j → j ≤ 4 → vp_in (i + Int32.ofInt j) L) (k : CK G H Lo T x b o od sb L xs z ini ret KR i) : lwF G ini ret KR 351 (lwL sb x b o od i none none none none) [] (lwS H sb o od L xs F Fd m z) := by
  obtain ⟨w, m1, z1, F1, m2, r, c1, c2, hw, hF, hT2, hz⟩ := kc_addNode (sb := sb) (o := o) (od := od) (xs := xs) (F := F) (Fd := Fd) (z := z) h hT (xs (i + Int32.ofInt 1).toNatClampNeg)
  refine xw_fn 352 dL_law_351 rfl rfl ?_
  refine xl_sc 358 dL_law_352 dL_law_353 dL_law_355 dL_law_356 dL_law_357 rfl (lwS_s h) (hi 1 (by decide) (by decide)) ?_
  refine xw_fn 359 dL_law_358 rfl rfl ?_
  refine xw_cs (fl := true) (As := [.ref x, .int (xs (i + Int32.ofInt 1).toNatClampNeg), .ref o]) (rest := []) 362 dL_law_359 rfl is_L_139.1 is_L_139.2 rfl (Nat.le_of_ble_eq_true rfl) c1 ?_
  refine xl_s6 364 dL_law_362 rfl ?_
  refine xw_fn 365 dL_law_364 rfl rfl ?_
  refine xl_sc 371 dL_law_365 dL_law_366 dL_law_368 dL_law_369 dL_law_370 rfl (lwS_s h) (hi 1 (by decide) (by decide)) ?_
  refine xl_cr 374 (As := [.int (xs (i + Int32.ofInt 1).toNatClampNeg)]) (rest := []) h dL_law_371 rfl iv_L_141 rfl (Nat.le_of_ble_eq_true rfl) cn_12 c2 ?_
  refine xl_s7 376 dL_law_374 rfl ?_
  exact xl_tail h dL_law_376 dL_law_377 dL_law_380 dL_law_382 dL_law_387 dL_law_389 dL_law_392 dL_law_393 dL_law_394 dL_law_395 dL_law_397 dL_law_398 dL_law_399 dL_law_404 rfl hw hF (k T m2 z1 F1 Fd _ _ _ _ (Nat.le_add_right _ _) hT2 hz)
theorem cs_addLink (h : LW G H Lo x b o od sb L) (hT : TOP Lo T x b m) (hTT : T ≤ 200000) (hi : ∀ j : Int, 1 ≤ j → j ≤ 4 → vp_in (i + Int32.ofInt j) L) (k : CK G H Lo T x b o od sb L xs z ini ret KR i) : lwF G ini ret KR 407 (lwL sb x b o od i none none none none) [] (lwS H sb o od L xs F Fd m z) := by
  obtain ⟨w, m1, z1, F1, m2, r, c1, c2, hw, hF, hT2, hz⟩ := kc_addLink (sb := sb) (o := o) (od := od) (xs := xs) (F := F) (Fd := Fd) (z := z) h hT (xs (i + Int32.ofInt 1).toNatClampNeg) (xs (i + Int32.ofInt 2).toNatClampNeg) (xs (i + Int32.ofInt 3).toNatClampNeg) (xs (i + Int32.ofInt 4).toNatClampNeg)
  refine xw_fn 408 dL_law_407 rfl rfl ?_
  refine xl_sc 414 dL_law_408 dL_law_409 dL_law_411 dL_law_412 dL_law_413 rfl (lwS_s h) (hi 1 (by decide) (by decide)) ?_
  refine xl_sc 420 dL_law_414 dL_law_415 dL_law_417 dL_law_418 dL_law_419 rfl (lwS_s h) (hi 2 (by decide) (by decide)) ?_
  refine xl_sc 426 dL_law_420 dL_law_421 dL_law_423 dL_law_424 dL_law_425 rfl (lwS_s h) (hi 3 (by decide) (by decide)) ?_
  refine xl_sc 432 dL_law_426 dL_law_427 dL_law_429 dL_law_430 dL_law_431 rfl (lwS_s h) (hi 4 (by decide) (by decide)) ?_
  refine xw_fn 433 dL_law_432 rfl rfl ?_
  refine xw_cs (fl := true) (As := [.ref x, .int (xs (i + Int32.ofInt 1).toNatClampNeg), .int (xs (i + Int32.ofInt 2).toNatClampNeg), .int (xs (i + Int32.ofInt 3).toNatClampNeg), .int (xs (i + Int32.ofInt 4).toNatClampNeg), .ref o]) (rest := []) 436 dL_law_433 rfl is_L_142.1 is_L_142.2 rfl (Nat.le_of_ble_eq_true rfl) c1 ?_
  refine xl_s6 438 dL_law_436 rfl ?_
  refine xw_fn 439 dL_law_438 rfl rfl ?_
  refine xl_sc 445 dL_law_439 dL_law_440 dL_law_442 dL_law_443 dL_law_444 rfl (lwS_s h) (hi 1 (by decide) (by decide)) ?_
  refine xl_sc 451 dL_law_445 dL_law_446 dL_law_448 dL_law_449 dL_law_450 rfl (lwS_s h) (hi 2 (by decide) (by decide)) ?_
  refine xl_sc 457 dL_law_451 dL_law_452 dL_law_454 dL_law_455 dL_law_456 rfl (lwS_s h) (hi 3 (by decide) (by decide)) ?_
  refine xl_sc 463 dL_law_457 dL_law_458 dL_law_460 dL_law_461 dL_law_462 rfl (lwS_s h) (hi 4 (by decide) (by decide)) ?_
  refine xl_cr 466 (As := [.int (xs (i + Int32.ofInt 1).toNatClampNeg), .int (xs (i + Int32.ofInt 2).toNatClampNeg), .int (xs (i + Int32.ofInt 3).toNatClampNeg), .int (xs (i + Int32.ofInt 4).toNatClampNeg)]) (rest := []) h dL_law_463 rfl iv_L_145 rfl (Nat.le_of_ble_eq_true rfl) cn_12 c2 ?_
  refine xl_s7 468 dL_law_466 rfl ?_
  exact xl_tail h dL_law_468 dL_law_469 dL_law_472 dL_law_474 dL_law_479 dL_law_481 dL_law_484 dL_law_485 dL_law_486 dL_law_487 dL_law_489 dL_law_490 dL_law_491 dL_law_496 rfl hw hF (k T m2 z1 F1 Fd _ _ _ _ (Nat.le_add_right _ _) hT2 hz)
theorem cs_setUp (h : LW G H Lo x b o od sb L) (hT : TOP Lo T x b m) (hTT : T ≤ 200000) (hi : ∀ j : Int, 1 ≤ j → j ≤ 4 → vp_in (i + Int32.ofInt j) L) (k : CK G H Lo T x b o od sb L xs z ini ret KR i) : lwF G ini ret KR 499 (lwL sb x b o od i none none none none) [] (lwS H sb o od L xs F Fd m z) := by
  obtain ⟨w, m1, z1, F1, m2, r, c1, c2, hw, hF, hT2, hz⟩ := kc_setUp (sb := sb) (o := o) (od := od) (xs := xs) (F := F) (Fd := Fd) (z := z) h hT (xs (i + Int32.ofInt 1).toNatClampNeg) (!decide ((xs (i + Int32.ofInt 2).toNatClampNeg) = 0))
  refine xw_fn 500 dL_law_499 rfl rfl ?_
  refine xl_sc 506 dL_law_500 dL_law_501 dL_law_503 dL_law_504 dL_law_505 rfl (lwS_s h) (hi 1 (by decide) (by decide)) ?_
  refine xl_sc 512 dL_law_506 dL_law_507 dL_law_509 dL_law_510 dL_law_511 rfl (lwS_s h) (hi 2 (by decide) (by decide)) ?_
  refine xl_bo 520 dL_law_512 dL_law_515 dL_law_516 dL_law_519 rfl ?_
  refine xw_fn 521 dL_law_520 rfl rfl ?_
  refine xw_cs (fl := true) (As := [.ref x, .int (xs (i + Int32.ofInt 1).toNatClampNeg), .int (bi (!decide ((xs (i + Int32.ofInt 2).toNatClampNeg) = 0))), .ref o]) (rest := []) 524 dL_law_521 rfl is_L_146.1 is_L_146.2 rfl (Nat.le_of_ble_eq_true rfl) c1 ?_
  refine xl_s6 526 dL_law_524 rfl ?_
  refine xw_fn 527 dL_law_526 rfl rfl ?_
  refine xl_sc 533 dL_law_527 dL_law_528 dL_law_530 dL_law_531 dL_law_532 rfl (lwS_s h) (hi 1 (by decide) (by decide)) ?_
  refine xl_sc 539 dL_law_533 dL_law_534 dL_law_536 dL_law_537 dL_law_538 rfl (lwS_s h) (hi 2 (by decide) (by decide)) ?_
  refine xl_bo 547 dL_law_539 dL_law_542 dL_law_543 dL_law_546 rfl ?_
  refine xl_cr 550 (As := [.int (xs (i + Int32.ofInt 1).toNatClampNeg), .int (bi (!decide ((xs (i + Int32.ofInt 2).toNatClampNeg) = 0)))]) (rest := []) h dL_law_547 rfl iv_L_149 rfl (Nat.le_of_ble_eq_true rfl) cn_12 c2 ?_
  refine xl_s7 552 dL_law_550 rfl ?_
  refine xl_th 563 h dL_law_552 dL_law_553 dL_law_556 dL_law_558 rfl hw (xw_fn 565 dL_law_563 rfl rfl ?_)
  have kg : lwF G ini ret KR 587 (lwL sb x b o od i (some (.int w)) (some (.int r)) none none) [] (lwS H sb o od L xs F1 Fd m2 z1) := xw_goto 2204 dL_law_587 rfl (k T m2 z1 F1 Fd _ _ _ _ (Nat.le_add_right _ _) hT2 hz)
  by_cases h0 : w = 0
  · refine xw_ne_f 568 587 dL_law_565 rfl rfl h0 (xw_fn 569 dL_law_568 rfl rfl (xw_fn 570 dL_law_569 rfl rfl (xw_lald 571 dL_law_570 rfl (lwS_o h) in_0 ?_)))
    have hF9 : F1 (Int32.ofInt 0).toNatClampNeg = .long (if r = 0 then 0 else 1) := hF h0
    rw [hF9]
    refine xw_fn 573 dL_law_571 rfl rfl ?_
    by_cases hr : r = 0
    · rw [if_pos hr]
      exact xw_eq_t 580 dL_law_573 rfl hr (xw_fn 581 dL_law_580 rfl rfl (xw_fn 582 dL_law_581 rfl rfl (xw_eq_t 587 dL_law_582 rfl (by decide) kg)))
    · rw [if_neg hr]
      exact xw_eq_f 576 580 dL_law_573 rfl rfl hr (xw_fn 577 dL_law_576 rfl rfl (xw_goto 581 dL_law_577 rfl (xw_fn 582 dL_law_581 rfl rfl (xw_eq_t 587 dL_law_582 rfl (by decide) kg))))
  · exact xw_ne_t 587 dL_law_565 rfl h0 kg
theorem cs_set (h : LW G H Lo x b o od sb L) (hT : TOP Lo T x b m) (hTT : T ≤ 200000) (hi : ∀ j : Int, 1 ≤ j → j ≤ 4 → vp_in (i + Int32.ofInt j) L) (k : CK G H Lo T x b o od sb L xs z ini ret KR i) : lwF G ini ret KR 590 (lwL sb x b o od i none none none none) [] (lwS H sb o od L xs F Fd m z) := by
  obtain ⟨w, m1, z1, F1, m2, r, c1, c2, hw, hF, hT2, hz⟩ := kc_set (sb := sb) (o := o) (od := od) (xs := xs) (F := F) (Fd := Fd) (z := z) h hT (xs (i + Int32.ofInt 1).toNatClampNeg) (xs (i + Int32.ofInt 2).toNatClampNeg)
  refine xw_fn 591 dL_law_590 rfl rfl ?_
  refine xl_sc 597 dL_law_591 dL_law_592 dL_law_594 dL_law_595 dL_law_596 rfl (lwS_s h) (hi 1 (by decide) (by decide)) ?_
  refine xl_sc 603 dL_law_597 dL_law_598 dL_law_600 dL_law_601 dL_law_602 rfl (lwS_s h) (hi 2 (by decide) (by decide)) ?_
  refine xw_fn 604 dL_law_603 rfl rfl ?_
  refine xw_cs (fl := true) (As := [.ref x, .int (xs (i + Int32.ofInt 1).toNatClampNeg), .int (xs (i + Int32.ofInt 2).toNatClampNeg), .ref o]) (rest := []) 607 dL_law_604 rfl is_L_150.1 is_L_150.2 rfl (Nat.le_of_ble_eq_true rfl) c1 ?_
  refine xl_s6 609 dL_law_607 rfl ?_
  refine xw_fn 610 dL_law_609 rfl rfl ?_
  refine xl_sc 616 dL_law_610 dL_law_611 dL_law_613 dL_law_614 dL_law_615 rfl (lwS_s h) (hi 1 (by decide) (by decide)) ?_
  refine xl_sc 622 dL_law_616 dL_law_617 dL_law_619 dL_law_620 dL_law_621 rfl (lwS_s h) (hi 2 (by decide) (by decide)) ?_
  refine xl_cr 625 (As := [.int (xs (i + Int32.ofInt 1).toNatClampNeg), .int (xs (i + Int32.ofInt 2).toNatClampNeg)]) (rest := []) h dL_law_622 rfl iv_L_153 rfl (Nat.le_of_ble_eq_true rfl) cn_12 c2 ?_
  refine xl_s7 627 dL_law_625 rfl ?_
  exact xl_tail h dL_law_627 dL_law_628 dL_law_631 dL_law_633 dL_law_638 dL_law_640 dL_law_643 dL_law_644 dL_law_645 dL_law_646 dL_law_648 dL_law_649 dL_law_650 dL_law_655 rfl hw hF (k T m2 z1 F1 Fd _ _ _ _ (Nat.le_add_right _ _) hT2 hz)
theorem cs_count (h : LW G H Lo x b o od sb L) (hT : TOP Lo T x b m) (hTT : T ≤ 200000) (hi : ∀ j : Int, 1 ≤ j → j ≤ 4 → vp_in (i + Int32.ofInt j) L) (k : CK G H Lo T x b o od sb L xs z ini ret KR i) : lwF G ini ret KR 658 (lwL sb x b o od i none none none none) [] (lwS H sb o od L xs F Fd m z) := by
  obtain ⟨w, m1, z1, F1, m2, r, c1, c2, hw, hF, hT2, hz⟩ := kc_count (sb := sb) (o := o) (od := od) (xs := xs) (F := F) (Fd := Fd) (z := z) h hT (xs (i + Int32.ofInt 1).toNatClampNeg)
  refine xw_fn 659 dL_law_658 rfl rfl ?_
  refine xl_sc 665 dL_law_659 dL_law_660 dL_law_662 dL_law_663 dL_law_664 rfl (lwS_s h) (hi 1 (by decide) (by decide)) ?_
  refine xw_fn 666 dL_law_665 rfl rfl ?_
  refine xw_cs (fl := true) (As := [.ref x, .int (xs (i + Int32.ofInt 1).toNatClampNeg), .ref o]) (rest := []) 669 dL_law_666 rfl is_L_154.1 is_L_154.2 rfl (Nat.le_of_ble_eq_true rfl) c1 ?_
  refine xl_s6 671 dL_law_669 rfl ?_
  refine xw_fn 672 dL_law_671 rfl rfl ?_
  refine xl_sc 678 dL_law_672 dL_law_673 dL_law_675 dL_law_676 dL_law_677 rfl (lwS_s h) (hi 1 (by decide) (by decide)) ?_
  refine xl_cr 681 (As := [.int (xs (i + Int32.ofInt 1).toNatClampNeg)]) (rest := []) h dL_law_678 rfl iv_L_156 rfl (Nat.le_of_ble_eq_true rfl) cn_12 c2 ?_
  refine xl_s7 683 dL_law_681 rfl ?_
  exact xl_tail h dL_law_683 dL_law_684 dL_law_687 dL_law_689 dL_law_694 dL_law_696 dL_law_699 dL_law_700 dL_law_701 dL_law_702 dL_law_704 dL_law_705 dL_law_706 dL_law_711 rfl hw hF (k T m2 z1 F1 Fd _ _ _ _ (Nat.le_add_right _ _) hT2 hz)
theorem cs_node (h : LW G H Lo x b o od sb L) (hT : TOP Lo T x b m) (hTT : T ≤ 200000) (hi : ∀ j : Int, 1 ≤ j → j ≤ 4 → vp_in (i + Int32.ofInt j) L) (k : CK G H Lo T x b o od sb L xs z ini ret KR i) : lwF G ini ret KR 714 (lwL sb x b o od i none none none none) [] (lwS H sb o od L xs F Fd m z) := by
  obtain ⟨w, m1, z1, F1, m2, r, c1, c2, hw, hF, hT2, hz⟩ := kc_node (sb := sb) (o := o) (od := od) (xs := xs) (F := F) (Fd := Fd) (z := z) h hT (xs (i + Int32.ofInt 1).toNatClampNeg) (xs (i + Int32.ofInt 2).toNatClampNeg)
  refine xw_fn 715 dL_law_714 rfl rfl ?_
  refine xl_sc 721 dL_law_715 dL_law_716 dL_law_718 dL_law_719 dL_law_720 rfl (lwS_s h) (hi 1 (by decide) (by decide)) ?_
  refine xl_sc 727 dL_law_721 dL_law_722 dL_law_724 dL_law_725 dL_law_726 rfl (lwS_s h) (hi 2 (by decide) (by decide)) ?_
  refine xw_fn 728 dL_law_727 rfl rfl ?_
  refine xw_cs (fl := true) (As := [.ref x, .int (xs (i + Int32.ofInt 1).toNatClampNeg), .int (xs (i + Int32.ofInt 2).toNatClampNeg), .ref o]) (rest := []) 731 dL_law_728 rfl is_L_157.1 is_L_157.2 rfl (Nat.le_of_ble_eq_true rfl) c1 ?_
  refine xl_s6 733 dL_law_731 rfl ?_
  refine xw_fn 734 dL_law_733 rfl rfl ?_
  refine xl_sc 740 dL_law_734 dL_law_735 dL_law_737 dL_law_738 dL_law_739 rfl (lwS_s h) (hi 1 (by decide) (by decide)) ?_
  refine xl_sc 746 dL_law_740 dL_law_741 dL_law_743 dL_law_744 dL_law_745 rfl (lwS_s h) (hi 2 (by decide) (by decide)) ?_
  refine xl_cr 749 (As := [.int (xs (i + Int32.ofInt 1).toNatClampNeg), .int (xs (i + Int32.ofInt 2).toNatClampNeg)]) (rest := []) h dL_law_746 rfl iv_L_159 rfl (Nat.le_of_ble_eq_true rfl) cn_12 c2 ?_
  refine xl_s7 751 dL_law_749 rfl ?_
  exact xl_tail h dL_law_751 dL_law_752 dL_law_755 dL_law_757 dL_law_762 dL_law_764 dL_law_767 dL_law_768 dL_law_769 dL_law_770 dL_law_772 dL_law_773 dL_law_774 dL_law_779 rfl hw hF (k T m2 z1 F1 Fd _ _ _ _ (Nat.le_add_right _ _) hT2 hz)
theorem cs_label (h : LW G H Lo x b o od sb L) (hT : TOP Lo T x b m) (hTT : T ≤ 200000) (hi : ∀ j : Int, 1 ≤ j → j ≤ 4 → vp_in (i + Int32.ofInt j) L) (k : CK G H Lo T x b o od sb L xs z ini ret KR i) : lwF G ini ret KR 782 (lwL sb x b o od i none none none none) [] (lwS H sb o od L xs F Fd m z) := by
  obtain ⟨w, m1, z1, F1, m2, r, c1, c2, hw, hF, hT2, hz⟩ := kc_label (sb := sb) (o := o) (od := od) (xs := xs) (F := F) (Fd := Fd) (z := z) h hT (xs (i + Int32.ofInt 1).toNatClampNeg) (xs (i + Int32.ofInt 2).toNatClampNeg) (xs (i + Int32.ofInt 3).toNatClampNeg)
  refine xw_fn 783 dL_law_782 rfl rfl ?_
  refine xl_sc 789 dL_law_783 dL_law_784 dL_law_786 dL_law_787 dL_law_788 rfl (lwS_s h) (hi 1 (by decide) (by decide)) ?_
  refine xl_sc 795 dL_law_789 dL_law_790 dL_law_792 dL_law_793 dL_law_794 rfl (lwS_s h) (hi 2 (by decide) (by decide)) ?_
  refine xl_sc 801 dL_law_795 dL_law_796 dL_law_798 dL_law_799 dL_law_800 rfl (lwS_s h) (hi 3 (by decide) (by decide)) ?_
  refine xw_fn 802 dL_law_801 rfl rfl ?_
  refine xw_cs (fl := true) (As := [.ref x, .int (xs (i + Int32.ofInt 1).toNatClampNeg), .int (xs (i + Int32.ofInt 2).toNatClampNeg), .int (xs (i + Int32.ofInt 3).toNatClampNeg), .ref o]) (rest := []) 805 dL_law_802 rfl is_L_160.1 is_L_160.2 rfl (Nat.le_of_ble_eq_true rfl) c1 ?_
  refine xl_s6 807 dL_law_805 rfl ?_
  refine xw_fn 808 dL_law_807 rfl rfl ?_
  refine xl_sc 814 dL_law_808 dL_law_809 dL_law_811 dL_law_812 dL_law_813 rfl (lwS_s h) (hi 1 (by decide) (by decide)) ?_
  refine xl_sc 820 dL_law_814 dL_law_815 dL_law_817 dL_law_818 dL_law_819 rfl (lwS_s h) (hi 2 (by decide) (by decide)) ?_
  refine xl_sc 826 dL_law_820 dL_law_821 dL_law_823 dL_law_824 dL_law_825 rfl (lwS_s h) (hi 3 (by decide) (by decide)) ?_
  refine xl_cr 829 (As := [.int (xs (i + Int32.ofInt 1).toNatClampNeg), .int (xs (i + Int32.ofInt 2).toNatClampNeg), .int (xs (i + Int32.ofInt 3).toNatClampNeg)]) (rest := []) h dL_law_826 rfl iv_L_163 rfl (Nat.le_of_ble_eq_true rfl) cn_12 c2 ?_
  refine xl_s7 831 dL_law_829 rfl ?_
  exact xl_tail h dL_law_831 dL_law_832 dL_law_835 dL_law_837 dL_law_842 dL_law_844 dL_law_847 dL_law_848 dL_law_849 dL_law_850 dL_law_852 dL_law_853 dL_law_854 dL_law_859 rfl hw hF (k T m2 z1 F1 Fd _ _ _ _ (Nat.le_add_right _ _) hT2 hz)
theorem cs_link (h : LW G H Lo x b o od sb L) (hT : TOP Lo T x b m) (hTT : T ≤ 200000) (hi : ∀ j : Int, 1 ≤ j → j ≤ 4 → vp_in (i + Int32.ofInt j) L) (k : CK G H Lo T x b o od sb L xs z ini ret KR i) : lwF G ini ret KR 862 (lwL sb x b o od i none none none none) [] (lwS H sb o od L xs F Fd m z) := by
  obtain ⟨w, m1, z1, F1, m2, r, c1, c2, hw, hF, hT2, hz⟩ := kc_link (sb := sb) (o := o) (od := od) (xs := xs) (F := F) (Fd := Fd) (z := z) h hT (xs (i + Int32.ofInt 1).toNatClampNeg) (xs (i + Int32.ofInt 2).toNatClampNeg)
  refine xw_fn 863 dL_law_862 rfl rfl ?_
  refine xl_sc 869 dL_law_863 dL_law_864 dL_law_866 dL_law_867 dL_law_868 rfl (lwS_s h) (hi 1 (by decide) (by decide)) ?_
  refine xl_sc 875 dL_law_869 dL_law_870 dL_law_872 dL_law_873 dL_law_874 rfl (lwS_s h) (hi 2 (by decide) (by decide)) ?_
  refine xw_fn 876 dL_law_875 rfl rfl ?_
  refine xw_cs (fl := true) (As := [.ref x, .int (xs (i + Int32.ofInt 1).toNatClampNeg), .int (xs (i + Int32.ofInt 2).toNatClampNeg), .ref o]) (rest := []) 879 dL_law_876 rfl is_L_164.1 is_L_164.2 rfl (Nat.le_of_ble_eq_true rfl) c1 ?_
  refine xl_s6 881 dL_law_879 rfl ?_
  refine xw_fn 882 dL_law_881 rfl rfl ?_
  refine xl_sc 888 dL_law_882 dL_law_883 dL_law_885 dL_law_886 dL_law_887 rfl (lwS_s h) (hi 1 (by decide) (by decide)) ?_
  refine xl_sc 894 dL_law_888 dL_law_889 dL_law_891 dL_law_892 dL_law_893 rfl (lwS_s h) (hi 2 (by decide) (by decide)) ?_
  refine xl_cr 897 (As := [.int (xs (i + Int32.ofInt 1).toNatClampNeg), .int (xs (i + Int32.ofInt 2).toNatClampNeg)]) (rest := []) h dL_law_894 rfl iv_L_166 rfl (Nat.le_of_ble_eq_true rfl) cn_12 c2 ?_
  refine xl_s7 899 dL_law_897 rfl ?_
  exact xl_tail h dL_law_899 dL_law_900 dL_law_903 dL_law_905 dL_law_910 dL_law_912 dL_law_915 dL_law_916 dL_law_917 dL_law_918 dL_law_920 dL_law_921 dL_law_922 dL_law_927 rfl hw hF (k T m2 z1 F1 Fd _ _ _ _ (Nat.le_add_right _ _) hT2 hz)
theorem cs_draft (h : LW G H Lo x b o od sb L) (hT : TOP Lo T x b m) (hTT : T ≤ 200000) (hi : ∀ j : Int, 1 ≤ j → j ≤ 4 → vp_in (i + Int32.ofInt j) L) (k : CK G H Lo T x b o od sb L xs z ini ret KR i) : lwF G ini ret KR 930 (lwL sb x b o od i none none none none) [] (lwS H sb o od L xs F Fd m z) := by
  obtain ⟨w, m1, z1, F1, m2, r, c1, c2, hw, hF, hT2, hz⟩ := kc_draft (sb := sb) (o := o) (od := od) (xs := xs) (F := F) (Fd := Fd) (z := z) h hT (xs (i + Int32.ofInt 1).toNatClampNeg)
  refine xw_fn 931 dL_law_930 rfl rfl ?_
  refine xl_sc 937 dL_law_931 dL_law_932 dL_law_934 dL_law_935 dL_law_936 rfl (lwS_s h) (hi 1 (by decide) (by decide)) ?_
  refine xw_fn 938 dL_law_937 rfl rfl ?_
  refine xw_cs (fl := true) (As := [.ref x, .int (xs (i + Int32.ofInt 1).toNatClampNeg), .ref o]) (rest := []) 941 dL_law_938 rfl is_L_167.1 is_L_167.2 rfl (Nat.le_of_ble_eq_true rfl) c1 ?_
  refine xl_s6 943 dL_law_941 rfl ?_
  refine xw_fn 944 dL_law_943 rfl rfl ?_
  refine xl_sc 950 dL_law_944 dL_law_945 dL_law_947 dL_law_948 dL_law_949 rfl (lwS_s h) (hi 1 (by decide) (by decide)) ?_
  refine xl_cr 953 (As := [.int (xs (i + Int32.ofInt 1).toNatClampNeg)]) (rest := []) h dL_law_950 rfl iv_L_169 rfl (Nat.le_of_ble_eq_true rfl) cn_12 c2 ?_
  refine xl_s7 955 dL_law_953 rfl ?_
  exact xl_tail h dL_law_955 dL_law_956 dL_law_959 dL_law_961 dL_law_966 dL_law_968 dL_law_971 dL_law_972 dL_law_973 dL_law_974 dL_law_976 dL_law_977 dL_law_978 dL_law_983 rfl hw hF (k T m2 z1 F1 Fd _ _ _ _ (Nat.le_add_right _ _) hT2 hz)
theorem cs_clearDraft (h : LW G H Lo x b o od sb L) (hT : TOP Lo T x b m) (hTT : T ≤ 200000) (hi : ∀ j : Int, 1 ≤ j → j ≤ 4 → vp_in (i + Int32.ofInt j) L) (k : CK G H Lo T x b o od sb L xs z ini ret KR i) : lwF G ini ret KR 986 (lwL sb x b o od i none none none none) [] (lwS H sb o od L xs F Fd m z) := by
  obtain ⟨m1, m2, r, c1, c2, hT2⟩ := kc_clearDraft (sb := sb) (o := o) (od := od) (xs := xs) (F := F) (Fd := Fd) (z := z) h hT
  refine xw_fn 987 dL_law_986 rfl rfl ?_
  refine xl_cc 990 (As := []) (rest := []) h dL_law_987 rfl iv_L_170 rfl (Nat.le_of_ble_eq_true rfl) cn_11 c1 ?_
  refine xw_fn 991 dL_law_990 rfl rfl ?_
  refine xl_cr 994 (As := []) (rest := [.int r]) h dL_law_991 rfl iv_L_173 rfl (Nat.le_of_ble_eq_true rfl) cn_12 c2 ?_
  exact xw_ceq_t 2204 dL_law_994 rfl rfl (k T m2 z F Fd _ _ _ _ (Nat.le_add_right _ _) hT2 zz_rf)
theorem cs_draftBest (h : LW G H Lo x b o od sb L) (hT : TOP Lo T x b m) (hTT : T ≤ 200000) (hi : ∀ j : Int, 1 ≤ j → j ≤ 4 → vp_in (i + Int32.ofInt j) L) (k : CK G H Lo T x b o od sb L xs z ini ret KR i) : lwF G ini ret KR 999 (lwL sb x b o od i none none none none) [] (lwS H sb o od L xs F Fd m z) := by
  obtain ⟨w, m1, z1, F1, m2, r, c1, c2, hw, hF, hT2, hz⟩ := kc_draftBest (sb := sb) (o := o) (od := od) (xs := xs) (F := F) (Fd := Fd) (z := z) h hT (xs (i + Int32.ofInt 1).toNatClampNeg) (xs (i + Int32.ofInt 2).toNatClampNeg) (xs (i + Int32.ofInt 3).toNatClampNeg)
  refine xw_fn 1000 dL_law_999 rfl rfl ?_
  refine xl_sc 1006 dL_law_1000 dL_law_1001 dL_law_1003 dL_law_1004 dL_law_1005 rfl (lwS_s h) (hi 1 (by decide) (by decide)) ?_
  refine xl_sc 1012 dL_law_1006 dL_law_1007 dL_law_1009 dL_law_1010 dL_law_1011 rfl (lwS_s h) (hi 2 (by decide) (by decide)) ?_
  refine xl_sc 1018 dL_law_1012 dL_law_1013 dL_law_1015 dL_law_1016 dL_law_1017 rfl (lwS_s h) (hi 3 (by decide) (by decide)) ?_
  refine xw_fn 1019 dL_law_1018 rfl rfl ?_
  refine xw_cs (fl := true) (As := [.ref x, .int (xs (i + Int32.ofInt 1).toNatClampNeg), .int (xs (i + Int32.ofInt 2).toNatClampNeg), .int (xs (i + Int32.ofInt 3).toNatClampNeg), .ref o]) (rest := []) 1022 dL_law_1019 rfl is_L_174.1 is_L_174.2 rfl (Nat.le_of_ble_eq_true rfl) c1 ?_
  refine xl_s6 1024 dL_law_1022 rfl ?_
  refine xw_fn 1025 dL_law_1024 rfl rfl ?_
  refine xl_sc 1031 dL_law_1025 dL_law_1026 dL_law_1028 dL_law_1029 dL_law_1030 rfl (lwS_s h) (hi 1 (by decide) (by decide)) ?_
  refine xl_sc 1037 dL_law_1031 dL_law_1032 dL_law_1034 dL_law_1035 dL_law_1036 rfl (lwS_s h) (hi 2 (by decide) (by decide)) ?_
  refine xl_sc 1043 dL_law_1037 dL_law_1038 dL_law_1040 dL_law_1041 dL_law_1042 rfl (lwS_s h) (hi 3 (by decide) (by decide)) ?_
  refine xl_cr 1046 (As := [.int (xs (i + Int32.ofInt 1).toNatClampNeg), .int (xs (i + Int32.ofInt 2).toNatClampNeg), .int (xs (i + Int32.ofInt 3).toNatClampNeg)]) (rest := []) h dL_law_1043 rfl iv_L_176 rfl (Nat.le_of_ble_eq_true rfl) cn_12 c2 ?_
  refine xl_s7 1048 dL_law_1046 rfl ?_
  exact xl_tail h dL_law_1048 dL_law_1049 dL_law_1052 dL_law_1054 dL_law_1059 dL_law_1061 dL_law_1064 dL_law_1065 dL_law_1066 dL_law_1067 dL_law_1069 dL_law_1070 dL_law_1071 dL_law_1076 rfl hw hF (k T m2 z1 F1 Fd _ _ _ _ (Nat.le_add_right _ _) hT2 hz)
theorem cs_draftNode (h : LW G H Lo x b o od sb L) (hT : TOP Lo T x b m) (hTT : T ≤ 200000) (hi : ∀ j : Int, 1 ≤ j → j ≤ 4 → vp_in (i + Int32.ofInt j) L) (k : CK G H Lo T x b o od sb L xs z ini ret KR i) : lwF G ini ret KR 1079 (lwL sb x b o od i none none none none) [] (lwS H sb o od L xs F Fd m z) := by
  obtain ⟨w, m1, z1, F1, m2, r, c1, c2, hw, hF, hT2, hz⟩ := kc_draftNode (sb := sb) (o := o) (od := od) (xs := xs) (F := F) (Fd := Fd) (z := z) h hT (xs (i + Int32.ofInt 1).toNatClampNeg)
  refine xw_fn 1080 dL_law_1079 rfl rfl ?_
  refine xl_sc 1086 dL_law_1080 dL_law_1081 dL_law_1083 dL_law_1084 dL_law_1085 rfl (lwS_s h) (hi 1 (by decide) (by decide)) ?_
  refine xw_fn 1087 dL_law_1086 rfl rfl ?_
  refine xw_cs (fl := true) (As := [.ref x, .int (xs (i + Int32.ofInt 1).toNatClampNeg), .ref o]) (rest := []) 1090 dL_law_1087 rfl is_L_177.1 is_L_177.2 rfl (Nat.le_of_ble_eq_true rfl) c1 ?_
  refine xl_s6 1092 dL_law_1090 rfl ?_
  refine xw_fn 1093 dL_law_1092 rfl rfl ?_
  refine xl_sc 1099 dL_law_1093 dL_law_1094 dL_law_1096 dL_law_1097 dL_law_1098 rfl (lwS_s h) (hi 1 (by decide) (by decide)) ?_
  refine xl_cr 1102 (As := [.int (xs (i + Int32.ofInt 1).toNatClampNeg)]) (rest := []) h dL_law_1099 rfl iv_L_179 rfl (Nat.le_of_ble_eq_true rfl) cn_12 c2 ?_
  refine xl_s7 1104 dL_law_1102 rfl ?_
  exact xl_tail h dL_law_1104 dL_law_1105 dL_law_1108 dL_law_1110 dL_law_1115 dL_law_1117 dL_law_1120 dL_law_1121 dL_law_1122 dL_law_1123 dL_law_1125 dL_law_1126 dL_law_1127 dL_law_1132 rfl hw hF (k T m2 z1 F1 Fd _ _ _ _ (Nat.le_add_right _ _) hT2 hz)
theorem cs_open (h : LW G H Lo x b o od sb L) (hT : TOP Lo T x b m) (hTT : T ≤ 200000) (hi : ∀ j : Int, 1 ≤ j → j ≤ 4 → vp_in (i + Int32.ofInt j) L) (k : CK G H Lo T x b o od sb L xs z ini ret KR i) : lwF G ini ret KR 1135 (lwL sb x b o od i none none none none) [] (lwS H sb o od L xs F Fd m z) := by
  obtain ⟨w, m1, z1, F1, m2, r, c1, c2, hw, hF, hT2, hz⟩ := kc_open (sb := sb) (o := o) (od := od) (xs := xs) (F := F) (Fd := Fd) (z := z) h hT (xs (i + Int32.ofInt 1).toNatClampNeg) (xs (i + Int32.ofInt 2).toNatClampNeg)
  refine xw_fn 1136 dL_law_1135 rfl rfl ?_
  refine xl_sc 1142 dL_law_1136 dL_law_1137 dL_law_1139 dL_law_1140 dL_law_1141 rfl (lwS_s h) (hi 1 (by decide) (by decide)) ?_
  refine xl_sc 1148 dL_law_1142 dL_law_1143 dL_law_1145 dL_law_1146 dL_law_1147 rfl (lwS_s h) (hi 2 (by decide) (by decide)) ?_
  refine xw_fn 1149 dL_law_1148 rfl rfl ?_
  refine xw_cs (fl := true) (As := [.ref x, .int (xs (i + Int32.ofInt 1).toNatClampNeg), .int (xs (i + Int32.ofInt 2).toNatClampNeg), .ref o]) (rest := []) 1152 dL_law_1149 rfl is_L_180.1 is_L_180.2 rfl (Nat.le_of_ble_eq_true rfl) c1 ?_
  refine xl_s6 1154 dL_law_1152 rfl ?_
  refine xw_fn 1155 dL_law_1154 rfl rfl ?_
  refine xl_sc 1161 dL_law_1155 dL_law_1156 dL_law_1158 dL_law_1159 dL_law_1160 rfl (lwS_s h) (hi 1 (by decide) (by decide)) ?_
  refine xl_sc 1167 dL_law_1161 dL_law_1162 dL_law_1164 dL_law_1165 dL_law_1166 rfl (lwS_s h) (hi 2 (by decide) (by decide)) ?_
  refine xl_cr 1170 (As := [.int (xs (i + Int32.ofInt 1).toNatClampNeg), .int (xs (i + Int32.ofInt 2).toNatClampNeg)]) (rest := []) h dL_law_1167 rfl iv_L_182 rfl (Nat.le_of_ble_eq_true rfl) cn_12 c2 ?_
  refine xl_s7 1172 dL_law_1170 rfl ?_
  exact xl_tail h dL_law_1172 dL_law_1173 dL_law_1176 dL_law_1178 dL_law_1183 dL_law_1185 dL_law_1188 dL_law_1189 dL_law_1190 dL_law_1191 dL_law_1193 dL_law_1194 dL_law_1195 dL_law_1200 rfl hw hF (k T m2 z1 F1 Fd _ _ _ _ (Nat.le_add_right _ _) hT2 hz)
theorem cs_close (h : LW G H Lo x b o od sb L) (hT : TOP Lo T x b m) (hTT : T ≤ 200000) (hi : ∀ j : Int, 1 ≤ j → j ≤ 4 → vp_in (i + Int32.ofInt j) L) (k : CK G H Lo T x b o od sb L xs z ini ret KR i) : lwF G ini ret KR 1203 (lwL sb x b o od i none none none none) [] (lwS H sb o od L xs F Fd m z) := by
  obtain ⟨w, m1, z1, F1, m2, r, c1, c2, hw, hF, hT2, hz⟩ := kc_close (sb := sb) (o := o) (od := od) (xs := xs) (F := F) (Fd := Fd) (z := z) h hT (xs (i + Int32.ofInt 1).toNatClampNeg)
  refine xw_fn 1204 dL_law_1203 rfl rfl ?_
  refine xl_sc 1210 dL_law_1204 dL_law_1205 dL_law_1207 dL_law_1208 dL_law_1209 rfl (lwS_s h) (hi 1 (by decide) (by decide)) ?_
  refine xw_fn 1211 dL_law_1210 rfl rfl ?_
  refine xw_cs (fl := true) (As := [.ref x, .int (xs (i + Int32.ofInt 1).toNatClampNeg), .ref o]) (rest := []) 1214 dL_law_1211 rfl is_L_183.1 is_L_183.2 rfl (Nat.le_of_ble_eq_true rfl) c1 ?_
  refine xl_s6 1216 dL_law_1214 rfl ?_
  refine xw_fn 1217 dL_law_1216 rfl rfl ?_
  refine xl_sc 1223 dL_law_1217 dL_law_1218 dL_law_1220 dL_law_1221 dL_law_1222 rfl (lwS_s h) (hi 1 (by decide) (by decide)) ?_
  refine xl_cr 1226 (As := [.int (xs (i + Int32.ofInt 1).toNatClampNeg)]) (rest := []) h dL_law_1223 rfl iv_L_185 rfl (Nat.le_of_ble_eq_true rfl) cn_12 c2 ?_
  refine xl_s7 1228 dL_law_1226 rfl ?_
  exact xl_tail h dL_law_1228 dL_law_1229 dL_law_1232 dL_law_1234 dL_law_1239 dL_law_1241 dL_law_1244 dL_law_1245 dL_law_1246 dL_law_1247 dL_law_1249 dL_law_1250 dL_law_1251 dL_law_1256 rfl hw hF (k T m2 z1 F1 Fd _ _ _ _ (Nat.le_add_right _ _) hT2 hz)
theorem cs_move (h : LW G H Lo x b o od sb L) (hT : TOP Lo T x b m) (hTT : T ≤ 200000) (hi : ∀ j : Int, 1 ≤ j → j ≤ 4 → vp_in (i + Int32.ofInt j) L) (k : CK G H Lo T x b o od sb L xs z ini ret KR i) : lwF G ini ret KR 1259 (lwL sb x b o od i none none none none) [] (lwS H sb o od L xs F Fd m z) := by
  obtain ⟨w, m1, z1, F1, m2, r, c1, c2, hw, hF, hT2, hz⟩ := kc_move (sb := sb) (o := o) (od := od) (xs := xs) (F := F) (Fd := Fd) (z := z) h hT (xs (i + Int32.ofInt 1).toNatClampNeg)
  refine xw_fn 1260 dL_law_1259 rfl rfl ?_
  refine xl_sc 1266 dL_law_1260 dL_law_1261 dL_law_1263 dL_law_1264 dL_law_1265 rfl (lwS_s h) (hi 1 (by decide) (by decide)) ?_
  refine xw_fn 1267 dL_law_1266 rfl rfl ?_
  refine xw_cs (fl := true) (As := [.ref x, .int (xs (i + Int32.ofInt 1).toNatClampNeg), .ref o]) (rest := []) 1270 dL_law_1267 rfl is_L_186.1 is_L_186.2 rfl (Nat.le_of_ble_eq_true rfl) c1 ?_
  refine xl_s6 1272 dL_law_1270 rfl ?_
  refine xw_fn 1273 dL_law_1272 rfl rfl ?_
  refine xl_sc 1279 dL_law_1273 dL_law_1274 dL_law_1276 dL_law_1277 dL_law_1278 rfl (lwS_s h) (hi 1 (by decide) (by decide)) ?_
  refine xl_cr 1282 (As := [.int (xs (i + Int32.ofInt 1).toNatClampNeg)]) (rest := []) h dL_law_1279 rfl iv_L_188 rfl (Nat.le_of_ble_eq_true rfl) cn_12 c2 ?_
  refine xl_s7 1284 dL_law_1282 rfl ?_
  exact xl_tail h dL_law_1284 dL_law_1285 dL_law_1288 dL_law_1290 dL_law_1295 dL_law_1297 dL_law_1300 dL_law_1301 dL_law_1302 dL_law_1303 dL_law_1305 dL_law_1306 dL_law_1307 dL_law_1312 rfl hw hF (k T m2 z1 F1 Fd _ _ _ _ (Nat.le_add_right _ _) hT2 hz)
theorem cs_moveBest (h : LW G H Lo x b o od sb L) (hT : TOP Lo T x b m) (hTT : T ≤ 200000) (hi : ∀ j : Int, 1 ≤ j → j ≤ 4 → vp_in (i + Int32.ofInt j) L) (k : CK G H Lo T x b o od sb L xs z ini ret KR i) : lwF G ini ret KR 1315 (lwL sb x b o od i none none none none) [] (lwS H sb o od L xs F Fd m z) := by
  obtain ⟨w, m1, z1, F1, m2, r, c1, c2, hw, hF, hT2, hz⟩ := kc_moveBest (sb := sb) (o := o) (od := od) (xs := xs) (F := F) (Fd := Fd) (z := z) h hT (xs (i + Int32.ofInt 1).toNatClampNeg) (xs (i + Int32.ofInt 2).toNatClampNeg)
  refine xw_fn 1316 dL_law_1315 rfl rfl ?_
  refine xl_sc 1322 dL_law_1316 dL_law_1317 dL_law_1319 dL_law_1320 dL_law_1321 rfl (lwS_s h) (hi 1 (by decide) (by decide)) ?_
  refine xl_sc 1328 dL_law_1322 dL_law_1323 dL_law_1325 dL_law_1326 dL_law_1327 rfl (lwS_s h) (hi 2 (by decide) (by decide)) ?_
  refine xw_fn 1329 dL_law_1328 rfl rfl ?_
  refine xw_cs (fl := true) (As := [.ref x, .int (xs (i + Int32.ofInt 1).toNatClampNeg), .int (xs (i + Int32.ofInt 2).toNatClampNeg), .ref o]) (rest := []) 1332 dL_law_1329 rfl is_L_189.1 is_L_189.2 rfl (Nat.le_of_ble_eq_true rfl) c1 ?_
  refine xl_s6 1334 dL_law_1332 rfl ?_
  refine xw_fn 1335 dL_law_1334 rfl rfl ?_
  refine xl_sc 1341 dL_law_1335 dL_law_1336 dL_law_1338 dL_law_1339 dL_law_1340 rfl (lwS_s h) (hi 1 (by decide) (by decide)) ?_
  refine xl_sc 1347 dL_law_1341 dL_law_1342 dL_law_1344 dL_law_1345 dL_law_1346 rfl (lwS_s h) (hi 2 (by decide) (by decide)) ?_
  refine xl_cr 1350 (As := [.int (xs (i + Int32.ofInt 1).toNatClampNeg), .int (xs (i + Int32.ofInt 2).toNatClampNeg)]) (rest := []) h dL_law_1347 rfl iv_L_191 rfl (Nat.le_of_ble_eq_true rfl) cn_12 c2 ?_
  refine xl_s7 1352 dL_law_1350 rfl ?_
  exact xl_tail h dL_law_1352 dL_law_1353 dL_law_1356 dL_law_1358 dL_law_1363 dL_law_1365 dL_law_1368 dL_law_1369 dL_law_1370 dL_law_1371 dL_law_1373 dL_law_1374 dL_law_1375 dL_law_1380 rfl hw hF (k T m2 z1 F1 Fd _ _ _ _ (Nat.le_add_right _ _) hT2 hz)
theorem cs_abort (h : LW G H Lo x b o od sb L) (hT : TOP Lo T x b m) (hTT : T ≤ 200000) (hi : ∀ j : Int, 1 ≤ j → j ≤ 4 → vp_in (i + Int32.ofInt j) L) (k : CK G H Lo T x b o od sb L xs z ini ret KR i) : lwF G ini ret KR 1383 (lwL sb x b o od i none none none none) [] (lwS H sb o od L xs F Fd m z) := by
  obtain ⟨w, m1, z1, F1, m2, r, c1, c2, hw, hF, hT2, hz⟩ := kc_abort (sb := sb) (o := o) (od := od) (xs := xs) (F := F) (Fd := Fd) (z := z) h hT (xs (i + Int32.ofInt 1).toNatClampNeg)
  refine xw_fn 1384 dL_law_1383 rfl rfl ?_
  refine xl_sc 1390 dL_law_1384 dL_law_1385 dL_law_1387 dL_law_1388 dL_law_1389 rfl (lwS_s h) (hi 1 (by decide) (by decide)) ?_
  refine xw_fn 1391 dL_law_1390 rfl rfl ?_
  refine xw_cs (fl := true) (As := [.ref x, .int (xs (i + Int32.ofInt 1).toNatClampNeg), .ref o]) (rest := []) 1394 dL_law_1391 rfl is_L_192.1 is_L_192.2 rfl (Nat.le_of_ble_eq_true rfl) c1 ?_
  refine xl_s6 1396 dL_law_1394 rfl ?_
  refine xw_fn 1397 dL_law_1396 rfl rfl ?_
  refine xl_sc 1403 dL_law_1397 dL_law_1398 dL_law_1400 dL_law_1401 dL_law_1402 rfl (lwS_s h) (hi 1 (by decide) (by decide)) ?_
  refine xl_cr 1406 (As := [.int (xs (i + Int32.ofInt 1).toNatClampNeg)]) (rest := []) h dL_law_1403 rfl iv_L_194 rfl (Nat.le_of_ble_eq_true rfl) cn_12 c2 ?_
  refine xl_s7 1408 dL_law_1406 rfl ?_
  exact xl_tail h dL_law_1408 dL_law_1409 dL_law_1412 dL_law_1414 dL_law_1419 dL_law_1421 dL_law_1424 dL_law_1425 dL_law_1426 dL_law_1427 dL_law_1429 dL_law_1430 dL_law_1431 dL_law_1436 rfl hw hF (k T m2 z1 F1 Fd _ _ _ _ (Nat.le_add_right _ _) hT2 hz)
theorem cs_offer (h : LW G H Lo x b o od sb L) (hT : TOP Lo T x b m) (hTT : T ≤ 200000) (hi : ∀ j : Int, 1 ≤ j → j ≤ 4 → vp_in (i + Int32.ofInt j) L) (k : CK G H Lo T x b o od sb L xs z ini ret KR i) : lwF G ini ret KR 1439 (lwL sb x b o od i none none none none) [] (lwS H sb o od L xs F Fd m z) := by
  obtain ⟨w, m1, z1, F1, m2, r, c1, c2, hw, hF, hT2, hz⟩ := kc_offer (sb := sb) (o := o) (od := od) (xs := xs) (F := F) (Fd := Fd) (z := z) h hT (xs (i + Int32.ofInt 1).toNatClampNeg) (xs (i + Int32.ofInt 2).toNatClampNeg)
  refine xw_fn 1440 dL_law_1439 rfl rfl ?_
  refine xl_sc 1446 dL_law_1440 dL_law_1441 dL_law_1443 dL_law_1444 dL_law_1445 rfl (lwS_s h) (hi 1 (by decide) (by decide)) ?_
  refine xl_sc 1452 dL_law_1446 dL_law_1447 dL_law_1449 dL_law_1450 dL_law_1451 rfl (lwS_s h) (hi 2 (by decide) (by decide)) ?_
  refine xw_fn 1453 dL_law_1452 rfl rfl ?_
  refine xw_cs (fl := true) (As := [.ref x, .int (xs (i + Int32.ofInt 1).toNatClampNeg), .int (xs (i + Int32.ofInt 2).toNatClampNeg), .ref o]) (rest := []) 1456 dL_law_1453 rfl is_L_195.1 is_L_195.2 rfl (Nat.le_of_ble_eq_true rfl) c1 ?_
  refine xl_s6 1458 dL_law_1456 rfl ?_
  refine xw_fn 1459 dL_law_1458 rfl rfl ?_
  refine xl_sc 1465 dL_law_1459 dL_law_1460 dL_law_1462 dL_law_1463 dL_law_1464 rfl (lwS_s h) (hi 1 (by decide) (by decide)) ?_
  refine xl_sc 1471 dL_law_1465 dL_law_1466 dL_law_1468 dL_law_1469 dL_law_1470 rfl (lwS_s h) (hi 2 (by decide) (by decide)) ?_
  refine xl_cr 1474 (As := [.int (xs (i + Int32.ofInt 1).toNatClampNeg), .int (xs (i + Int32.ofInt 2).toNatClampNeg)]) (rest := []) h dL_law_1471 rfl iv_L_197 rfl (Nat.le_of_ble_eq_true rfl) cn_12 c2 ?_
  refine xl_s7 1476 dL_law_1474 rfl ?_
  exact xl_tail h dL_law_1476 dL_law_1477 dL_law_1480 dL_law_1482 dL_law_1487 dL_law_1489 dL_law_1492 dL_law_1493 dL_law_1494 dL_law_1495 dL_law_1497 dL_law_1498 dL_law_1499 dL_law_1504 rfl hw hF (k T m2 z1 F1 Fd _ _ _ _ (Nat.le_add_right _ _) hT2 hz)
theorem cs_run (h : LW G H Lo x b o od sb L) (hT : TOP Lo T x b m) (hTT : T ≤ 200000) (hi : ∀ j : Int, 1 ≤ j → j ≤ 4 → vp_in (i + Int32.ofInt j) L) (k : CK G H Lo T x b o od sb L xs z ini ret KR i) : lwF G ini ret KR 1507 (lwL sb x b o od i none none none none) [] (lwS H sb o od L xs F Fd m z) := by
  obtain ⟨w, m1, z1, F1, m2, r, c1, c2, hw, hF, hT2, hz⟩ := kc_run (sb := sb) (o := o) (od := od) (xs := xs) (F := F) (Fd := Fd) (z := z) h hT (xs (i + Int32.ofInt 1).toNatClampNeg)
  refine xw_fn 1508 dL_law_1507 rfl rfl ?_
  refine xl_sc 1514 dL_law_1508 dL_law_1509 dL_law_1511 dL_law_1512 dL_law_1513 rfl (lwS_s h) (hi 1 (by decide) (by decide)) ?_
  refine xw_fn 1515 dL_law_1514 rfl rfl ?_
  refine xw_cs (fl := true) (As := [.ref x, .int (xs (i + Int32.ofInt 1).toNatClampNeg), .ref o]) (rest := []) 1518 dL_law_1515 rfl is_L_198.1 is_L_198.2 rfl (Nat.le_of_ble_eq_true rfl) c1 ?_
  refine xl_s6 1520 dL_law_1518 rfl ?_
  refine xw_fn 1521 dL_law_1520 rfl rfl ?_
  refine xl_sc 1527 dL_law_1521 dL_law_1522 dL_law_1524 dL_law_1525 dL_law_1526 rfl (lwS_s h) (hi 1 (by decide) (by decide)) ?_
  refine xl_cr 1530 (As := [.int (xs (i + Int32.ofInt 1).toNatClampNeg)]) (rest := []) h dL_law_1527 rfl iv_L_200 rfl (Nat.le_of_ble_eq_true rfl) cn_12 c2 ?_
  refine xl_s7 1532 dL_law_1530 rfl ?_
  exact xl_tail h dL_law_1532 dL_law_1533 dL_law_1536 dL_law_1538 dL_law_1543 dL_law_1545 dL_law_1548 dL_law_1549 dL_law_1550 dL_law_1551 dL_law_1553 dL_law_1554 dL_law_1555 dL_law_1560 rfl hw hF (k (T + 200) m2 z1 F1 Fd _ _ _ _ (Nat.le_refl _) hT2 hz)
theorem cs_circuit (h : LW G H Lo x b o od sb L) (hT : TOP Lo T x b m) (hTT : T ≤ 200000) (hi : ∀ j : Int, 1 ≤ j → j ≤ 4 → vp_in (i + Int32.ofInt j) L) (k : CK G H Lo T x b o od sb L xs z ini ret KR i) : lwF G ini ret KR 1563 (lwL sb x b o od i none none none none) [] (lwS H sb o od L xs F Fd m z) := by
  obtain ⟨w, m1, z1, F1, m2, r, c1, c2, hw, hF, hT2, hz⟩ := kc_circuit (sb := sb) (o := o) (od := od) (xs := xs) (F := F) (Fd := Fd) (z := z) h hT (xs (i + Int32.ofInt 1).toNatClampNeg) (xs (i + Int32.ofInt 2).toNatClampNeg)
  refine xw_fn 1564 dL_law_1563 rfl rfl ?_
  refine xl_sc 1570 dL_law_1564 dL_law_1565 dL_law_1567 dL_law_1568 dL_law_1569 rfl (lwS_s h) (hi 1 (by decide) (by decide)) ?_
  refine xl_sc 1576 dL_law_1570 dL_law_1571 dL_law_1573 dL_law_1574 dL_law_1575 rfl (lwS_s h) (hi 2 (by decide) (by decide)) ?_
  refine xw_fn 1577 dL_law_1576 rfl rfl ?_
  refine xw_cs (fl := true) (As := [.ref x, .int (xs (i + Int32.ofInt 1).toNatClampNeg), .int (xs (i + Int32.ofInt 2).toNatClampNeg), .ref o]) (rest := []) 1580 dL_law_1577 rfl is_L_201.1 is_L_201.2 rfl (Nat.le_of_ble_eq_true rfl) c1 ?_
  refine xl_s6 1582 dL_law_1580 rfl ?_
  refine xw_fn 1583 dL_law_1582 rfl rfl ?_
  refine xl_sc 1589 dL_law_1583 dL_law_1584 dL_law_1586 dL_law_1587 dL_law_1588 rfl (lwS_s h) (hi 1 (by decide) (by decide)) ?_
  refine xl_sc 1595 dL_law_1589 dL_law_1590 dL_law_1592 dL_law_1593 dL_law_1594 rfl (lwS_s h) (hi 2 (by decide) (by decide)) ?_
  refine xl_cr 1598 (As := [.int (xs (i + Int32.ofInt 1).toNatClampNeg), .int (xs (i + Int32.ofInt 2).toNatClampNeg)]) (rest := []) h dL_law_1595 rfl iv_L_203 rfl (Nat.le_of_ble_eq_true rfl) cn_12 c2 ?_
  refine xl_s7 1600 dL_law_1598 rfl ?_
  exact xl_tail h dL_law_1600 dL_law_1601 dL_law_1604 dL_law_1606 dL_law_1611 dL_law_1613 dL_law_1616 dL_law_1617 dL_law_1618 dL_law_1619 dL_law_1621 dL_law_1622 dL_law_1623 dL_law_1628 rfl hw hF (k T m2 z1 F1 Fd _ _ _ _ (Nat.le_add_right _ _) hT2 hz)
theorem cs_way (h : LW G H Lo x b o od sb L) (hT : TOP Lo T x b m) (hTT : T ≤ 200000) (hi : ∀ j : Int, 1 ≤ j → j ≤ 4 → vp_in (i + Int32.ofInt j) L) (k : CK G H Lo T x b o od sb L xs z ini ret KR i) : lwF G ini ret KR 1631 (lwL sb x b o od i none none none none) [] (lwS H sb o od L xs F Fd m z) := by
  obtain ⟨w, m1, z1, F1, m2, r, c1, c2, hw, hF, hT2, hz⟩ := kc_way (sb := sb) (o := o) (od := od) (xs := xs) (F := F) (Fd := Fd) (z := z) h hT (xs (i + Int32.ofInt 1).toNatClampNeg) (!decide ((xs (i + Int32.ofInt 2).toNatClampNeg) = 0)) (xs (i + Int32.ofInt 3).toNatClampNeg) (xs (i + Int32.ofInt 4).toNatClampNeg)
  refine xw_fn 1632 dL_law_1631 rfl rfl ?_
  refine xl_sc 1638 dL_law_1632 dL_law_1633 dL_law_1635 dL_law_1636 dL_law_1637 rfl (lwS_s h) (hi 1 (by decide) (by decide)) ?_
  refine xl_sc 1644 dL_law_1638 dL_law_1639 dL_law_1641 dL_law_1642 dL_law_1643 rfl (lwS_s h) (hi 2 (by decide) (by decide)) ?_
  refine xl_bo 1652 dL_law_1644 dL_law_1647 dL_law_1648 dL_law_1651 rfl ?_
  refine xl_sc 1658 dL_law_1652 dL_law_1653 dL_law_1655 dL_law_1656 dL_law_1657 rfl (lwS_s h) (hi 3 (by decide) (by decide)) ?_
  refine xl_sc 1664 dL_law_1658 dL_law_1659 dL_law_1661 dL_law_1662 dL_law_1663 rfl (lwS_s h) (hi 4 (by decide) (by decide)) ?_
  refine xw_fn 1665 dL_law_1664 rfl rfl ?_
  refine xw_cs (fl := true) (As := [.ref x, .int (xs (i + Int32.ofInt 1).toNatClampNeg), .int (bi (!decide ((xs (i + Int32.ofInt 2).toNatClampNeg) = 0))), .int (xs (i + Int32.ofInt 3).toNatClampNeg), .int (xs (i + Int32.ofInt 4).toNatClampNeg), .ref o]) (rest := []) 1668 dL_law_1665 rfl is_L_204.1 is_L_204.2 rfl (Nat.le_of_ble_eq_true rfl) c1 ?_
  refine xl_s6 1670 dL_law_1668 rfl ?_
  refine xw_fn 1671 dL_law_1670 rfl rfl ?_
  refine xl_sc 1677 dL_law_1671 dL_law_1672 dL_law_1674 dL_law_1675 dL_law_1676 rfl (lwS_s h) (hi 1 (by decide) (by decide)) ?_
  refine xl_sc 1683 dL_law_1677 dL_law_1678 dL_law_1680 dL_law_1681 dL_law_1682 rfl (lwS_s h) (hi 2 (by decide) (by decide)) ?_
  refine xl_bo 1691 dL_law_1683 dL_law_1686 dL_law_1687 dL_law_1690 rfl ?_
  refine xl_sc 1697 dL_law_1691 dL_law_1692 dL_law_1694 dL_law_1695 dL_law_1696 rfl (lwS_s h) (hi 3 (by decide) (by decide)) ?_
  refine xl_sc 1703 dL_law_1697 dL_law_1698 dL_law_1700 dL_law_1701 dL_law_1702 rfl (lwS_s h) (hi 4 (by decide) (by decide)) ?_
  refine xl_cr 1706 (As := [.int (xs (i + Int32.ofInt 1).toNatClampNeg), .int (bi (!decide ((xs (i + Int32.ofInt 2).toNatClampNeg) = 0))), .int (xs (i + Int32.ofInt 3).toNatClampNeg), .int (xs (i + Int32.ofInt 4).toNatClampNeg)]) (rest := []) h dL_law_1703 rfl iv_L_207 rfl (Nat.le_of_ble_eq_true rfl) cn_12 c2 ?_
  refine xl_s7 1708 dL_law_1706 rfl ?_
  exact xl_tail h dL_law_1708 dL_law_1709 dL_law_1712 dL_law_1714 dL_law_1719 dL_law_1721 dL_law_1724 dL_law_1725 dL_law_1726 dL_law_1727 dL_law_1729 dL_law_1730 dL_law_1731 dL_law_1736 rfl hw hF (k T m2 z1 F1 Fd _ _ _ _ (Nat.le_add_right _ _) hT2 hz)
theorem cs_packet (h : LW G H Lo x b o od sb L) (hT : TOP Lo T x b m) (hTT : T ≤ 200000) (hi : ∀ j : Int, 1 ≤ j → j ≤ 4 → vp_in (i + Int32.ofInt j) L) (k : CK G H Lo T x b o od sb L xs z ini ret KR i) : lwF G ini ret KR 1739 (lwL sb x b o od i none none none none) [] (lwS H sb o od L xs F Fd m z) := by
  obtain ⟨w, m1, z1, F1, m2, r, c1, c2, hw, hF, hT2, hz⟩ := kc_packet (sb := sb) (o := o) (od := od) (xs := xs) (F := F) (Fd := Fd) (z := z) h hT (xs (i + Int32.ofInt 1).toNatClampNeg) (xs (i + Int32.ofInt 2).toNatClampNeg)
  refine xw_fn 1740 dL_law_1739 rfl rfl ?_
  refine xl_sc 1746 dL_law_1740 dL_law_1741 dL_law_1743 dL_law_1744 dL_law_1745 rfl (lwS_s h) (hi 1 (by decide) (by decide)) ?_
  refine xl_sc 1752 dL_law_1746 dL_law_1747 dL_law_1749 dL_law_1750 dL_law_1751 rfl (lwS_s h) (hi 2 (by decide) (by decide)) ?_
  refine xw_fn 1753 dL_law_1752 rfl rfl ?_
  refine xw_cs (fl := true) (As := [.ref x, .int (xs (i + Int32.ofInt 1).toNatClampNeg), .int (xs (i + Int32.ofInt 2).toNatClampNeg), .ref o]) (rest := []) 1756 dL_law_1753 rfl is_L_208.1 is_L_208.2 rfl (Nat.le_of_ble_eq_true rfl) c1 ?_
  refine xl_s6 1758 dL_law_1756 rfl ?_
  refine xw_fn 1759 dL_law_1758 rfl rfl ?_
  refine xl_sc 1765 dL_law_1759 dL_law_1760 dL_law_1762 dL_law_1763 dL_law_1764 rfl (lwS_s h) (hi 1 (by decide) (by decide)) ?_
  refine xl_sc 1771 dL_law_1765 dL_law_1766 dL_law_1768 dL_law_1769 dL_law_1770 rfl (lwS_s h) (hi 2 (by decide) (by decide)) ?_
  refine xl_cr 1774 (As := [.int (xs (i + Int32.ofInt 1).toNatClampNeg), .int (xs (i + Int32.ofInt 2).toNatClampNeg)]) (rest := []) h dL_law_1771 rfl iv_L_210 rfl (Nat.le_of_ble_eq_true rfl) cn_12 c2 ?_
  refine xl_s7 1776 dL_law_1774 rfl ?_
  exact xl_tail h dL_law_1776 dL_law_1777 dL_law_1780 dL_law_1782 dL_law_1787 dL_law_1789 dL_law_1792 dL_law_1793 dL_law_1794 dL_law_1795 dL_law_1797 dL_law_1798 dL_law_1799 dL_law_1804 rfl hw hF (k T m2 z1 F1 Fd _ _ _ _ (Nat.le_add_right _ _) hT2 hz)
theorem cs_meanDelay (h : LW G H Lo x b o od sb L) (hT : TOP Lo T x b m) (hTT : T ≤ 200000) (hi : ∀ j : Int, 1 ≤ j → j ≤ 4 → vp_in (i + Int32.ofInt j) L) (k : CK G H Lo T x b o od sb L xs z ini ret KR i) : lwF G ini ret KR 1807 (lwL sb x b o od i none none none none) [] (lwS H sb o od L xs F Fd m z) := by
  obtain ⟨w, m1, z1, F1, m2, r, c1, c2, hw, hF, hT2, hz⟩ := k_meanDelay (sb := sb) (o := o) (od := od) (xs := xs) (F := F) (Fd := Fd) (z := z) h hT (by omega) (xs (i + Int32.ofInt 1).toNatClampNeg)
  refine xw_fn 1808 dL_law_1807 rfl rfl ?_
  refine xl_sc 1814 dL_law_1808 dL_law_1809 dL_law_1811 dL_law_1812 dL_law_1813 rfl (lwS_s h) (hi 1 (by decide) (by decide)) ?_
  refine xw_fn 1816 dL_law_1814 rfl rfl ?_
  refine xw_cs (fl := true) (As := [.ref x, .int (xs (i + Int32.ofInt 1).toNatClampNeg), .ref od]) (rest := []) 1819 dL_law_1816 rfl is_L_211.1 is_L_211.2 rfl (Nat.le_of_ble_eq_true rfl) c1 ?_
  refine xl_s6 1821 dL_law_1819 rfl ?_
  refine xw_fn 1822 dL_law_1821 rfl rfl ?_
  refine xl_sc 1828 dL_law_1822 dL_law_1823 dL_law_1825 dL_law_1826 dL_law_1827 rfl (lwS_s h) (hi 1 (by decide) (by decide)) ?_
  refine xl_cr 1831 (As := [.int (xs (i + Int32.ofInt 1).toNatClampNeg)]) (rest := []) h dL_law_1828 rfl iv_L_214 rfl (Nat.le_of_ble_eq_true rfl) cn_12 c2 ?_
  refine xw_fn (ls' := lwL sb x b o od i (some (.int w)) (some (.double r)) none none) 1833 dL_law_1831 rfl rfl ?_
  refine xl_th 1844 h dL_law_1833 dL_law_1834 dL_law_1837 dL_law_1839 rfl hw (xw_fn 1846 dL_law_1844 rfl rfl ?_)
  have kg : lwF G ini ret KR 1881 (lwL sb x b o od i (some (.int w)) (some (.double r)) none none) [] (lwS H sb o od L xs F F1 m2 z1) := xw_goto 2204 dL_law_1881 rfl (k T m2 z1 F F1 _ _ _ _ (Nat.le_add_right _ _) hT2 hz)
  by_cases h0 : w = 0
  · refine xw_ne_f 1849 1881 dL_law_1846 rfl rfl h0 (xw_fn 1851 dL_law_1849 rfl rfl (xw_fn 1852 dL_law_1851 rfl rfl (xw_dald 1853 dL_law_1852 rfl (lwS_d h) in_0 ?_)))
    rw [hF h0]
    refine xw_fn 1855 dL_law_1853 rfl rfl (xw_fn 1856 dL_law_1855 rfl rfl ?_)
    obtain ⟨v, hv⟩ : ∃ v, v = Op.cmpValue (FP.dcmp r r) .l := ⟨_, rfl⟩
    rw [← hv]
    by_cases e : v = 0
    · exact xw_eq_t 1881 dL_law_1856 rfl e kg
    · refine xw_eq_f 1859 1881 dL_law_1856 rfl rfl e (xw_fn 1861 dL_law_1859 rfl rfl (xw_fn 1862 dL_law_1861 rfl rfl (xw_dald 1863 dL_law_1862 rfl (lwS_d h) in_0 ?_)))
      rw [hF h0]
      refine xw_fn 1865 dL_law_1863 rfl rfl (xw_fn 1866 dL_law_1865 rfl rfl (xw_dald 1867 dL_law_1866 rfl (lwS_d h) in_0 ?_))
      rw [hF h0]
      refine xw_fn 1868 dL_law_1867 rfl rfl ?_
      rw [← hv]
      refine xw_eq_f 1871 1879 dL_law_1868 rfl rfl e (xw_fn 1873 dL_law_1871 rfl rfl (xw_fn 1875 dL_law_1873 rfl rfl (xw_fn 1876 dL_law_1875 rfl rfl ?_)))
      rw [← hv]
      exact xw_ne_t 1881 dL_law_1876 rfl e kg
  · exact xw_ne_t 1881 dL_law_1846 rfl h0 kg
theorem cs_usage (h : LW G H Lo x b o od sb L) (hT : TOP Lo T x b m) (hTT : T ≤ 200000) (hi : ∀ j : Int, 1 ≤ j → j ≤ 4 → vp_in (i + Int32.ofInt j) L) (k : CK G H Lo T x b o od sb L xs z ini ret KR i) : lwF G ini ret KR 1884 (lwL sb x b o od i none none none none) [] (lwS H sb o od L xs F Fd m z) := by
  obtain ⟨m1, m2, r, c1, c2, hT2, hn⟩ := kc_usage (sb := sb) (o := o) (od := od) (xs := xs) (F := F) (Fd := Fd) (z := z) h hT
  refine xw_fn 1885 dL_law_1884 rfl rfl ?_
  refine xl_cc 1888 (As := []) (rest := []) h dL_law_1885 rfl iv_L_215 rfl (Nat.le_of_ble_eq_true rfl) cn_11 c1 ?_
  refine xw_f2d 1889 dL_law_1888 rfl hn ?_
  refine xw_fn (ls' := lwL sb x b o od i (some (.double (FP.f2d r))) none none none) 1891 dL_law_1889 rfl rfl ?_
  refine xw_fn 1892 dL_law_1891 rfl rfl ?_
  refine xl_cr 1895 (As := []) (rest := []) h dL_law_1892 rfl iv_L_219 rfl (Nat.le_of_ble_eq_true rfl) cn_12 c2 ?_
  refine xw_f2d 1896 dL_law_1895 rfl hn ?_
  refine xw_fn (ls' := lwL sb x b o od i (some (.double (FP.f2d r))) none (some (.double (FP.f2d r))) none) 1898 dL_law_1896 rfl rfl ?_
  have kg : lwF G ini ret KR 1924 (lwL sb x b o od i (some (.double (FP.f2d r))) none (some (.double (FP.f2d r))) none) [] (lwS H sb o od L xs F Fd m2 z) := xw_goto 2204 dL_law_1924 rfl (k T m2 z F Fd _ _ _ _ (Nat.le_add_right _ _) hT2 zz_rf)
  refine xw_fn 1900 dL_law_1898 rfl rfl (xw_fn 1902 dL_law_1900 rfl rfl (xw_fn 1903 dL_law_1902 rfl rfl ?_))
  obtain ⟨v, hv⟩ : ∃ v, v = Op.cmpValue (FP.dcmp (FP.f2d r) (FP.f2d r)) .l := ⟨_, rfl⟩
  rw [← hv]
  by_cases e : v = 0
  · exact xw_eq_t 1924 dL_law_1903 rfl e kg
  · refine xw_eq_f 1906 1924 dL_law_1903 rfl rfl e (xw_fn 1908 dL_law_1906 rfl rfl (xw_fn 1910 dL_law_1908 rfl rfl (xw_fn 1911 dL_law_1910 rfl rfl ?_)))
    rw [← hv]
    refine xw_eq_f 1914 1922 dL_law_1911 rfl rfl e (xw_fn 1916 dL_law_1914 rfl rfl (xw_fn 1918 dL_law_1916 rfl rfl (xw_fn 1919 dL_law_1918 rfl rfl ?_)))
    rw [← hv]
    exact xw_ne_t 1924 dL_law_1919 rfl e kg
theorem cs_canMove (h : LW G H Lo x b o od sb L) (hT : TOP Lo T x b m) (hTT : T ≤ 200000) (hi : ∀ j : Int, 1 ≤ j → j ≤ 4 → vp_in (i + Int32.ofInt j) L) (k : CK G H Lo T x b o od sb L xs z ini ret KR i) : lwF G ini ret KR 1927 (lwL sb x b o od i none none none none) [] (lwS H sb o od L xs F Fd m z) := by
  obtain ⟨w, m1, z1, F1, m2, r, c1, c2, hw, hF, hT2, hz⟩ := kc_canMove (sb := sb) (o := o) (od := od) (xs := xs) (F := F) (Fd := Fd) (z := z) h hT (xs (i + Int32.ofInt 1).toNatClampNeg) (xs (i + Int32.ofInt 2).toNatClampNeg)
  refine xw_fn 1928 dL_law_1927 rfl rfl ?_
  refine xl_sc 1934 dL_law_1928 dL_law_1929 dL_law_1931 dL_law_1932 dL_law_1933 rfl (lwS_s h) (hi 1 (by decide) (by decide)) ?_
  refine xl_sc 1940 dL_law_1934 dL_law_1935 dL_law_1937 dL_law_1938 dL_law_1939 rfl (lwS_s h) (hi 2 (by decide) (by decide)) ?_
  refine xw_fn 1941 dL_law_1940 rfl rfl ?_
  refine xw_cs (fl := true) (As := [.ref x, .int (xs (i + Int32.ofInt 1).toNatClampNeg), .int (xs (i + Int32.ofInt 2).toNatClampNeg), .ref o]) (rest := []) 1944 dL_law_1941 rfl is_L_220.1 is_L_220.2 rfl (Nat.le_of_ble_eq_true rfl) c1 ?_
  refine xl_s6 1946 dL_law_1944 rfl ?_
  refine xw_fn 1947 dL_law_1946 rfl rfl ?_
  refine xl_sc 1953 dL_law_1947 dL_law_1948 dL_law_1950 dL_law_1951 dL_law_1952 rfl (lwS_s h) (hi 1 (by decide) (by decide)) ?_
  refine xl_sc 1959 dL_law_1953 dL_law_1954 dL_law_1956 dL_law_1957 dL_law_1958 rfl (lwS_s h) (hi 2 (by decide) (by decide)) ?_
  refine xl_cr 1962 (As := [.int (xs (i + Int32.ofInt 1).toNatClampNeg), .int (xs (i + Int32.ofInt 2).toNatClampNeg)]) (rest := []) h dL_law_1959 rfl iv_L_222 rfl (Nat.le_of_ble_eq_true rfl) cn_12 c2 ?_
  refine xl_s7 1964 dL_law_1962 rfl ?_
  exact xl_tail h dL_law_1964 dL_law_1965 dL_law_1968 dL_law_1970 dL_law_1975 dL_law_1977 dL_law_1980 dL_law_1981 dL_law_1982 dL_law_1983 dL_law_1985 dL_law_1986 dL_law_1987 dL_law_1992 rfl hw hF (k T m2 z1 F1 Fd _ _ _ _ (Nat.le_add_right _ _) hT2 hz)
theorem cs_movedIn (h : LW G H Lo x b o od sb L) (hT : TOP Lo T x b m) (hTT : T ≤ 200000) (hi : ∀ j : Int, 1 ≤ j → j ≤ 4 → vp_in (i + Int32.ofInt j) L) (k : CK G H Lo T x b o od sb L xs z ini ret KR i) : lwF G ini ret KR 1995 (lwL sb x b o od i none none none none) [] (lwS H sb o od L xs F Fd m z) := by
  obtain ⟨w, m1, z1, F1, m2, r, c1, c2, hw, hF, hT2, hz⟩ := kc_movedIn (sb := sb) (o := o) (od := od) (xs := xs) (F := F) (Fd := Fd) (z := z) h hT (xs (i + Int32.ofInt 1).toNatClampNeg)
  refine xw_fn 1996 dL_law_1995 rfl rfl ?_
  refine xl_sc 2002 dL_law_1996 dL_law_1997 dL_law_1999 dL_law_2000 dL_law_2001 rfl (lwS_s h) (hi 1 (by decide) (by decide)) ?_
  refine xw_fn 2003 dL_law_2002 rfl rfl ?_
  refine xw_cs (fl := true) (As := [.ref x, .int (xs (i + Int32.ofInt 1).toNatClampNeg), .ref o]) (rest := []) 2006 dL_law_2003 rfl is_L_223.1 is_L_223.2 rfl (Nat.le_of_ble_eq_true rfl) c1 ?_
  refine xl_s6 2008 dL_law_2006 rfl ?_
  refine xw_fn 2009 dL_law_2008 rfl rfl ?_
  refine xl_sc 2015 dL_law_2009 dL_law_2010 dL_law_2012 dL_law_2013 dL_law_2014 rfl (lwS_s h) (hi 1 (by decide) (by decide)) ?_
  refine xl_cr 2018 (As := [.int (xs (i + Int32.ofInt 1).toNatClampNeg)]) (rest := []) h dL_law_2015 rfl iv_L_225 rfl (Nat.le_of_ble_eq_true rfl) cn_12 c2 ?_
  refine xl_s7 2020 dL_law_2018 rfl ?_
  exact xl_tail h dL_law_2020 dL_law_2021 dL_law_2024 dL_law_2026 dL_law_2031 dL_law_2033 dL_law_2036 dL_law_2037 dL_law_2038 dL_law_2039 dL_law_2041 dL_law_2042 dL_law_2043 dL_law_2048 rfl hw hF (k T m2 z1 F1 Fd _ _ _ _ (Nat.le_add_right _ _) hT2 hz)
theorem cs_ahead (h : LW G H Lo x b o od sb L) (hT : TOP Lo T x b m) (hTT : T ≤ 200000) (hi : ∀ j : Int, 1 ≤ j → j ≤ 4 → vp_in (i + Int32.ofInt j) L) (k : CK G H Lo T x b o od sb L xs z ini ret KR i) : lwF G ini ret KR 2051 (lwL sb x b o od i none none none none) [] (lwS H sb o od L xs F Fd m z) := by
  obtain ⟨w, m1, z1, F1, m2, r, c1, c2, hw, hF, hT2, hz⟩ := kc_ahead (sb := sb) (o := o) (od := od) (xs := xs) (F := F) (Fd := Fd) (z := z) h hT (xs (i + Int32.ofInt 1).toNatClampNeg) (xs (i + Int32.ofInt 2).toNatClampNeg)
  refine xw_fn 2052 dL_law_2051 rfl rfl ?_
  refine xl_sc 2058 dL_law_2052 dL_law_2053 dL_law_2055 dL_law_2056 dL_law_2057 rfl (lwS_s h) (hi 1 (by decide) (by decide)) ?_
  refine xl_sc 2064 dL_law_2058 dL_law_2059 dL_law_2061 dL_law_2062 dL_law_2063 rfl (lwS_s h) (hi 2 (by decide) (by decide)) ?_
  refine xw_fn 2065 dL_law_2064 rfl rfl ?_
  refine xw_cs (fl := true) (As := [.ref x, .int (xs (i + Int32.ofInt 1).toNatClampNeg), .int (xs (i + Int32.ofInt 2).toNatClampNeg), .ref o]) (rest := []) 2068 dL_law_2065 rfl is_L_226.1 is_L_226.2 rfl (Nat.le_of_ble_eq_true rfl) c1 ?_
  refine xl_s6 2070 dL_law_2068 rfl ?_
  refine xw_fn 2071 dL_law_2070 rfl rfl ?_
  refine xl_sc 2077 dL_law_2071 dL_law_2072 dL_law_2074 dL_law_2075 dL_law_2076 rfl (lwS_s h) (hi 1 (by decide) (by decide)) ?_
  refine xl_sc 2083 dL_law_2077 dL_law_2078 dL_law_2080 dL_law_2081 dL_law_2082 rfl (lwS_s h) (hi 2 (by decide) (by decide)) ?_
  refine xl_cr 2086 (As := [.int (xs (i + Int32.ofInt 1).toNatClampNeg), .int (xs (i + Int32.ofInt 2).toNatClampNeg)]) (rest := []) h dL_law_2083 rfl iv_L_228 rfl (Nat.le_of_ble_eq_true rfl) cn_12 c2 ?_
  refine xl_s7 2088 dL_law_2086 rfl ?_
  exact xl_tail h dL_law_2088 dL_law_2089 dL_law_2092 dL_law_2094 dL_law_2099 dL_law_2101 dL_law_2104 dL_law_2105 dL_law_2106 dL_law_2107 dL_law_2109 dL_law_2110 dL_law_2111 dL_law_2116 rfl hw hF (k T m2 z1 F1 Fd _ _ _ _ (Nat.le_add_right _ _) hT2 hz)
theorem cs_weakLink (h : LW G H Lo x b o od sb L) (hT : TOP Lo T x b m) (hTT : T ≤ 200000) (hi : ∀ j : Int, 1 ≤ j → j ≤ 4 → vp_in (i + Int32.ofInt j) L) (k : CK G H Lo T x b o od sb L xs z ini ret KR i) : lwF G ini ret KR 2119 (lwL sb x b o od i none none none none) [] (lwS H sb o od L xs F Fd m z) := by
  obtain ⟨m1, m2, r, c1, c2, hT2⟩ := kc_weakLink (sb := sb) (o := o) (od := od) (xs := xs) (F := F) (Fd := Fd) (z := z) h hT
  refine xw_fn 2120 dL_law_2119 rfl rfl ?_
  refine xl_cc 2123 (As := []) (rest := []) h dL_law_2120 rfl iv_L_229 rfl (Nat.le_of_ble_eq_true rfl) cn_11 c1 ?_
  refine xw_fn 2124 dL_law_2123 rfl rfl ?_
  refine xl_cr 2127 (As := []) (rest := [.int r]) h dL_law_2124 rfl iv_L_232 rfl (Nat.le_of_ble_eq_true rfl) cn_12 c2 ?_
  exact xw_ceq_t 2204 dL_law_2127 rfl rfl (k T m2 z F Fd _ _ _ _ (Nat.le_add_right _ _) hT2 zz_rf)
theorem cs_save (h : LW G H Lo x b o od sb L) (hT : TOP Lo T x b m) (hTT : T ≤ 200000) (hi : ∀ j : Int, 1 ≤ j → j ≤ 4 → vp_in (i + Int32.ofInt j) L) (k : CK G H Lo T x b o od sb L xs z ini ret KR i) : lwF G ini ret KR 2132 (lwL sb x b o od i none none none none) [] (lwS H sb o od L xs F Fd m z) := by
  obtain ⟨w, m1, z1, m2, c1, c2, hw, hT2, hz⟩ := kc_save (sb := sb) (o := o) (od := od) (xs := xs) (F := F) (Fd := Fd) (z := z) h hT (xs (i + Int32.ofInt 1).toNatClampNeg)
  refine xw_fn 2133 dL_law_2132 rfl rfl ?_
  refine xl_sc 2139 dL_law_2133 dL_law_2134 dL_law_2136 dL_law_2137 dL_law_2138 rfl (lwS_s h) (hi 1 (by decide) (by decide)) ?_
  refine xw_cs (fl := true) (As := [.ref x, .int (xs (i + Int32.ofInt 1).toNatClampNeg)]) (rest := []) 2142 dL_law_2139 rfl is_L_233.1 is_L_233.2 rfl (Nat.le_of_ble_eq_true rfl) c1 ?_
  refine xl_s6 2144 dL_law_2142 rfl ?_
  refine xw_fn 2145 dL_law_2144 rfl rfl ?_
  refine xl_sc 2151 dL_law_2145 dL_law_2146 dL_law_2148 dL_law_2149 dL_law_2150 rfl (lwS_s h) (hi 1 (by decide) (by decide)) ?_
  refine xl_cr 2154 (As := [.int (xs (i + Int32.ofInt 1).toNatClampNeg)]) (rest := []) h dL_law_2151 rfl iv_L_236 rfl (Nat.le_of_ble_eq_true rfl) cn_12 c2 ?_
  exact xl_th 2165 h dL_law_2154 dL_law_2155 dL_law_2158 dL_law_2160 rfl hw (xw_goto 2204 dL_law_2165 rfl (k T m2 z1 F Fd _ _ _ _ (Nat.le_add_right _ _) hT2 hz))
theorem cs_restore (h : LW G H Lo x b o od sb L) (hT : TOP Lo T x b m) (hTT : T ≤ 200000) (hi : ∀ j : Int, 1 ≤ j → j ≤ 4 → vp_in (i + Int32.ofInt j) L) (k : CK G H Lo T x b o od sb L xs z ini ret KR i) : lwF G ini ret KR 2168 (lwL sb x b o od i none none none none) [] (lwS H sb o od L xs F Fd m z) := by
  obtain ⟨w, m1, z1, m2, c1, c2, hw, hT2, hz⟩ := kc_restore (sb := sb) (o := o) (od := od) (xs := xs) (F := F) (Fd := Fd) (z := z) h hT (xs (i + Int32.ofInt 1).toNatClampNeg)
  refine xw_fn 2169 dL_law_2168 rfl rfl ?_
  refine xl_sc 2175 dL_law_2169 dL_law_2170 dL_law_2172 dL_law_2173 dL_law_2174 rfl (lwS_s h) (hi 1 (by decide) (by decide)) ?_
  refine xw_cs (fl := true) (As := [.ref x, .int (xs (i + Int32.ofInt 1).toNatClampNeg)]) (rest := []) 2178 dL_law_2175 rfl is_L_237.1 is_L_237.2 rfl (Nat.le_of_ble_eq_true rfl) c1 ?_
  refine xl_s6 2180 dL_law_2178 rfl ?_
  refine xw_fn 2181 dL_law_2180 rfl rfl ?_
  refine xl_sc 2187 dL_law_2181 dL_law_2182 dL_law_2184 dL_law_2185 dL_law_2186 rfl (lwS_s h) (hi 1 (by decide) (by decide)) ?_
  refine xl_cr 2190 (As := [.int (xs (i + Int32.ofInt 1).toNatClampNeg)]) (rest := []) h dL_law_2187 rfl iv_L_239 rfl (Nat.le_of_ble_eq_true rfl) cn_12 c2 ?_
  exact xl_th 2201 h dL_law_2190 dL_law_2191 dL_law_2194 dL_law_2196 rfl hw (xw_goto 2204 dL_law_2201 rfl (k T m2 z1 F Fd _ _ _ _ (Nat.le_add_right _ _) hT2 hz))
end LAWA
