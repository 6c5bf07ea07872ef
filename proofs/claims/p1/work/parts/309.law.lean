set_option maxHeartbeats 16000000 in
set_option maxRecDepth 100000 in
theorem law_25 {p : Program} {l : Launch} {e : Env} {s : State} {m : MethodId} {below : List Frame} {meth : Method} {c : Code} {G : zGT} {tp b : Nat} {xs : Nat → Int32} {A : Nat → Prop} (hAe : ∀ q, A q → s.heap.size ≤ q) (E : zE p s m c #[Value.ref b] G RL code 4 A) (hSs : zS G tp A s) (hr : meth.sig.returnType = ret) (hlocks : meth.locks = false) (hbl : b < s.heap.size) (hbA : ¬ A b) (hX : va_X b 6 xs s s.heap) (y0 y1 y2 y3 y4 y5 : Int32) (hy0 : y0 = xs 0) (hy1 : y1 = xs 1) (hy2 : y2 = xs 2) (hy3 : y3 = xs 3) (hy4 : y4 = xs 4) (hy5 : y5 = xs 5) (q_445 q_446 q_447 q_448 q_449 q_450 q_451 q_452 q_453 q_454 q_455 q_456 q_457 q_458 q_459 q_460 q_461 q_462 q_463 q_464 q_465 q_466 q_467 q_468 q_469 q_470 q_471 q_472 q_473 q_474 q_475 q_476 q_477 q_478 q_479 q_480 q_481 q_482 q_485 q_486 q_487 q_488 q_489 q_490 q_491 q_492 q_493 q_494 q_495 q_496 q_497 q_498 q_499 q_500 q_501 q_502 q_503 q_504 q_505 q_506 q_507 q_508 q_509 q_510 q_511 q_512 q_513 q_514 q_515 q_516 q_517 q_518 : Nat) (g_483 : Nat → Option Nat) (hf_484 : g_483 0 = some q_470) {H : Heap} {locs : List Loc} {ls : Array Slot} (B : zB G A s.heap [zo q_445 9 [.ref q_446, .ref q_447, .ref q_448, .ref q_449, .ref q_450, .ref q_451, .ref q_452, .ref q_453, .ref q_454, .ref q_455, .ref q_456, .ref q_457, .ref q_458, .null, .int 0, .int (-1)], zo q_446 6 [.ref q_459, .ref q_460, .ref q_461, .ref q_462, .int 0, .int 0, .int 0, .int 0, .int 0, .long 0], zb G q_459 2000 (fun _ => 0), zo q_447 2 [.int 0, .int 0, .int 0, .int 0, .int 0, .int 0], zo q_448 4 [.int 0, .int 0, .ref q_463], zo q_449 0 [.ref q_464, .int 0], zi G q_464 16 (fun _ => 0), zo q_450 0 [.ref q_465, .int 0], zi G q_465 16 (fun _ => 0), zc G q_451 3 (va_up (va_up (va_up (fun _ => none) 0 (some q_468)) 1 (some q_467)) 2 (some q_466)), zz G q_452 3 (fun _ => 0), zo q_453 3 [.ref q_469, .int 0, .int 0], zc G q_469 40 g_483, zo q_470 0 [.ref q_471, .int 0], zi G q_471 16 (fun _ => 0), zo q_454 1 [.ref q_472, .ref q_473, .ref q_474], zi G q_472 64 (fun _ => 0), zo q_473 0 [.ref q_475, .int 0], zi G q_475 384 (fun _ => 0), zo q_474 0 [.ref q_476, .int 0], zo q_455 7 [.ref q_477, .ref q_478, .int 0, .int 0], zi G q_477 16 (fun _ => 0), zo q_456 8 [.int 0, .int 0, .int 0, .int 0, .int 0, .int 0, .ref q_479], zi G q_457 4 zPr, zo q_468 0 [.ref q_480, .int 0], zi G q_480 16 (fun _ => 0), zo q_467 0 [.ref q_481, .int 0], zi G q_481 16 (fun _ => 0), zo q_466 0 [.ref q_482, .int 0], zi G q_482 16 (fun _ => 0), zo q_485 10 (.int 0 :: .ref q_486 :: .int 0 :: .ref q_487 :: .int 0 :: .ref q_488 :: .ref q_489 :: .ref q_490 :: .ref q_491 :: .ref q_492 :: .int 0 :: .int 0 :: .int 0 :: .int 0 :: .int 0 :: .int 0 :: .int (-1) :: .int 0 :: .ref q_493 :: .int 0 :: .int 0 :: .ref q_494 :: .int 0 :: .int 0 :: .ref q_495 :: .int 0 :: .int 0 :: .ref q_496 :: .ref q_497 :: .ref q_498 :: .ref q_499 :: .int 0 :: .int 0 :: .ref q_500 :: .ref q_501 :: .ref q_502 :: .ref q_503 :: .ref q_504 :: .int 0 :: .ref q_505 :: .ref q_506 :: .int 0 :: .int 0 :: .ref q_507 :: .ref q_508 :: .ref q_509 :: .ref q_510 :: .ref q_511 :: .int (-1) :: .ref q_512 :: .ref q_513 :: .ref q_514 :: .ref q_515 :: .ref q_516 :: .ref q_517 :: .ref q_518 :: []), zb G q_486 2000 (fun _ => 0), zi G q_488 403 (fun _ => 0), zi G q_489 403 (fun _ => 0), zi G q_490 403 (fun _ => 0), zj G q_491 403 (fun _ => 0), zi G q_493 4 (upd (upd (upd (upd (fun _ => 0) 0 1) 1 1) 2 5) 3 13), zi G q_494 8 (fun _ => 0), zi G q_495 4 (fun _ => 0), zi G q_496 8 (fun _ => 0), zi G q_497 49 (fun _ => 0), zi G q_498 49 (fun _ => 0), zi G q_499 1960 (fun _ => 0), zi G q_500 147 (fun _ => 0), zz G q_501 3 (fun _ => 0), zi G q_502 64 (fun _ => 0), zi G q_504 49 (fun _ => 0), zi G q_512 40320 (fun _ => 0), zi G q_513 40320 (fun _ => 0), zi G q_514 8 (fun _ => 0), zi G q_515 8 (fun _ => 0), zi G q_517 16 (fun _ => 0)] H locs) (hl : lv_has ls 4 [(3, .int 0), (2, .ref q_485), (1, .ref q_445), (0, .ref b)]) : W p l e room_1 s m #[Value.ref b] below meth c H locs 150 97037 (lw_Z below #[Value.ref b] s) (F0 m 897 ls []) := by
  refine lv_aload_n E.x E.b dL_law_897 rfl (lv_at hl 2 rfl) ?_
  refine lv_aload_n E.x E.b dL_law_898 rfl (lv_at hl 3 rfl) ?_
  refine lv_iload_n E.x E.b dL_law_899 rfl (lv_at hl 0 rfl) ?_
  refine lv_iconst (v := 1) E.x E.b dL_law_900 (by decide) ?_
  refine lv_iadd E.x E.b dL_law_901 (z_topi 1 (by decide +kernel) ?_)
  refine va_sld E.x E.b hX hbl hbA B.2.2 (show ¬ ((1 : Int32) < 0 ∨ 6 ≤ (1 : Int32).toNatClampNeg) by decide +kernel) dL_law_902 (z_topi y1 hy1.symm ?_)
  refine z_calli E B (wc := [zo q_445 9 [.ref q_446, .ref q_447, .ref q_448, .ref q_449, .ref q_450, .ref q_451, .ref q_452, .ref q_453, .ref q_454, .ref q_455, .ref q_456, .ref q_457, .ref q_458, .null, .int 0, .int (-1)], zc G q_451 3 (va_up (va_up (va_up (fun _ => none) 0 (some q_468)) 1 (some q_467)) 2 (some q_466)), zo q_468 0 [.ref q_480, .int 0], zo q_449 0 [.ref q_464, .int 0], zi G q_480 16 (fun _ => 0), zi G q_464 16 (fun _ => 0), zz G q_452 3 (fun _ => 0), zo q_467 0 [.ref q_481, .int 0], zi G q_481 16 (fun _ => 0), zo q_466 0 [.ref q_482, .int 0], zi G q_482 16 (fun _ => 0)]) (wr := [zo q_446 6 [.ref q_459, .ref q_460, .ref q_461, .ref q_462, .int 0, .int 0, .int 0, .int 0, .int 0, .long 0], zb G q_459 2000 (fun _ => 0), zo q_447 2 [.int 0, .int 0, .int 0, .int 0, .int 0, .int 0], zo q_448 4 [.int 0, .int 0, .ref q_463], zo q_450 0 [.ref q_465, .int 0], zi G q_465 16 (fun _ => 0), zo q_453 3 [.ref q_469, .int 0, .int 0], zc G q_469 40 g_483, zo q_470 0 [.ref q_471, .int 0], zi G q_471 16 (fun _ => 0), zo q_454 1 [.ref q_472, .ref q_473, .ref q_474], zi G q_472 64 (fun _ => 0), zo q_473 0 [.ref q_475, .int 0], zi G q_475 384 (fun _ => 0), zo q_474 0 [.ref q_476, .int 0], zo q_455 7 [.ref q_477, .ref q_478, .int 0, .int 0], zi G q_477 16 (fun _ => 0), zo q_456 8 [.int 0, .int 0, .int 0, .int 0, .int 0, .int 0, .ref q_479], zi G q_457 4 zPr, zo q_485 10 (.int 0 :: .ref q_486 :: .int 0 :: .ref q_487 :: .int 0 :: .ref q_488 :: .ref q_489 :: .ref q_490 :: .ref q_491 :: .ref q_492 :: .int 0 :: .int 0 :: .int 0 :: .int 0 :: .int 0 :: .int 0 :: .int (-1) :: .int 0 :: .ref q_493 :: .int 0 :: .int 0 :: .ref q_494 :: .int 0 :: .int 0 :: .ref q_495 :: .int 0 :: .int 0 :: .ref q_496 :: .ref q_497 :: .ref q_498 :: .ref q_499 :: .int 0 :: .int 0 :: .ref q_500 :: .ref q_501 :: .ref q_502 :: .ref q_503 :: .ref q_504 :: .int 0 :: .ref q_505 :: .ref q_506 :: .int 0 :: .int 0 :: .ref q_507 :: .ref q_508 :: .ref q_509 :: .ref q_510 :: .ref q_511 :: .int (-1) :: .ref q_512 :: .ref q_513 :: .ref q_514 :: .ref q_515 :: .ref q_516 :: .ref q_517 :: .ref q_518 :: []), zb G q_486 2000 (fun _ => 0), zi G q_488 403 (fun _ => 0), zi G q_489 403 (fun _ => 0), zi G q_490 403 (fun _ => 0), zj G q_491 403 (fun _ => 0), zi G q_493 4 (upd (upd (upd (upd (fun _ => 0) 0 1) 1 1) 2 5) 3 13), zi G q_494 8 (fun _ => 0), zi G q_495 4 (fun _ => 0), zi G q_496 8 (fun _ => 0), zi G q_497 49 (fun _ => 0), zi G q_498 49 (fun _ => 0), zi G q_499 1960 (fun _ => 0), zi G q_500 147 (fun _ => 0), zz G q_501 3 (fun _ => 0), zi G q_502 64 (fun _ => 0), zi G q_504 49 (fun _ => 0), zi G q_512 40320 (fun _ => 0), zi G q_513 40320 (fun _ => 0), zi G q_514 8 (fun _ => 0), zi G q_515 8 (fun _ => 0), zi G q_517 16 (fun _ => 0)]) [0, 9, 24, 5, 25, 6, 10, 26, 27, 28, 29] [1, 2, 3, 4, 7, 8, 11, 12, 13, 14, 15, 16, 17, 18, 19, 20, 21, 22, 23, 30, 31, 32, 33, 34, 35, 36, 37, 38, 39, 40, 41, 42, 43, 44, 45, 46, 47, 48, 49, 50, 51] rfl rfl (by decide) (by decide) (z_runV E B (As := [.int y1]) (rest := []) [0, 9, 24, 5, 25, 6, 10, 26, 27, 28, 29] rfl (by decide) mv_X11_hold t_949 0 (ci := 9) rfl rfl rfl (c_X11_hold_134 l G _ q_445 q_451 q_468 q_449 q_480 q_464 q_452 q_467 q_481 q_466 q_482 q_446 q_447 q_448 q_450 q_453 q_454 q_455 q_456 q_457 q_458 y1) rfl rfl ⟨Nat.le_of_ble_eq_true rfl, Nat.le_of_ble_eq_true rfl⟩ rfl hl.1 rfl (Nat.le_of_ble_eq_true rfl) dL_law_903 ⟨(Nat.le_of_ble_eq_true rfl), (Nat.le_of_ble_eq_true rfl)⟩) (fun r t H locs hp hB J => ?_)
  have B := J _ hB
  have B : zB G A s.heap [zo q_446 6 [.ref q_459, .ref q_460, .ref q_461, .ref q_462, .int 0, .int 0, .int 0, .int 0, .int 0, .long 0], zb G q_459 2000 (fun _ => 0), zo q_447 2 [.int 0, .int 0, .int 0, .int 0, .int 0, .int 0], zo q_448 4 [.int 0, .int 0, .ref q_463], zo q_450 0 [.ref q_465, .int 0], zi G q_465 16 (fun _ => 0), zo q_453 3 [.ref q_469, .int 0, .int 0], zc G q_469 40 g_483, zo q_470 0 [.ref q_471, .int 0], zi G q_471 16 (fun _ => 0), zo q_454 1 [.ref q_472, .ref q_473, .ref q_474], zi G q_472 64 (fun _ => 0), zo q_473 0 [.ref q_475, .int 0], zi G q_475 384 (fun _ => 0), zo q_474 0 [.ref q_476, .int 0], zo q_455 7 [.ref q_477, .ref q_478, .int 0, .int 0], zi G q_477 16 (fun _ => 0), zo q_456 8 [.int 0, .int 0, .int 0, .int 0, .int 0, .int 0, .ref q_479], zi G q_457 4 zPr, zo q_485 10 (.int 0 :: .ref q_486 :: .int 0 :: .ref q_487 :: .int 0 :: .ref q_488 :: .ref q_489 :: .ref q_490 :: .ref q_491 :: .ref q_492 :: .int 0 :: .int 0 :: .int 0 :: .int 0 :: .int 0 :: .int 0 :: .int (-1) :: .int 0 :: .ref q_493 :: .int 0 :: .int 0 :: .ref q_494 :: .int 0 :: .int 0 :: .ref q_495 :: .int 0 :: .int 0 :: .ref q_496 :: .ref q_497 :: .ref q_498 :: .ref q_499 :: .int 0 :: .int 0 :: .ref q_500 :: .ref q_501 :: .ref q_502 :: .ref q_503 :: .ref q_504 :: .int 0 :: .ref q_505 :: .ref q_506 :: .int 0 :: .int 0 :: .ref q_507 :: .ref q_508 :: .ref q_509 :: .ref q_510 :: .ref q_511 :: .int (-1) :: .ref q_512 :: .ref q_513 :: .ref q_514 :: .ref q_515 :: .ref q_516 :: .ref q_517 :: .ref q_518 :: []), zb G q_486 2000 (fun _ => 0), zi G q_488 403 (fun _ => 0), zi G q_489 403 (fun _ => 0), zi G q_490 403 (fun _ => 0), zj G q_491 403 (fun _ => 0), zi G q_493 4 (upd (upd (upd (upd (fun _ => 0) 0 1) 1 1) 2 5) 3 13), zi G q_494 8 (fun _ => 0), zi G q_495 4 (fun _ => 0), zi G q_496 8 (fun _ => 0), zi G q_497 49 (fun _ => 0), zi G q_498 49 (fun _ => 0), zi G q_499 1960 (fun _ => 0), zi G q_500 147 (fun _ => 0), zz G q_501 3 (fun _ => 0), zi G q_502 64 (fun _ => 0), zi G q_504 49 (fun _ => 0), zi G q_512 40320 (fun _ => 0), zi G q_513 40320 (fun _ => 0), zi G q_514 8 (fun _ => 0), zi G q_515 8 (fun _ => 0), zi G q_517 16 (fun _ => 0)] _ _ := B
  rcases hp with ⟨c_546, rfl⟩ | ⟨c_547, rfl⟩ | ⟨c_548, rfl⟩ | ⟨c_549, rfl⟩ | ⟨c_550, rfl⟩
  · skip
    refine lv_aload_n E.x E.b dL_law_906 rfl (lv_at hl 1 rfl) ?_
    refine lv_aload_n E.x E.b dL_law_907 rfl (lv_at hl 3 rfl) ?_
    refine lv_iload_n E.x E.b dL_law_908 rfl (lv_at hl 0 rfl) ?_
    refine lv_iconst (v := 1) E.x E.b dL_law_909 (by decide) ?_
    refine lv_iadd E.x E.b dL_law_910 (z_topi 1 (by decide +kernel) ?_)
    refine va_sld E.x E.b hX hbl hbA B.2.2 (show ¬ ((1 : Int32) < 0 ∨ 6 ≤ (1 : Int32).toNatClampNeg) by decide +kernel) dL_law_911 (z_topi y1 hy1.symm ?_)
    refine z_calli E B (wc := [zo q_485 10 (.int 0 :: .ref q_486 :: .int 0 :: .ref q_487 :: .int 0 :: .ref q_488 :: .ref q_489 :: .ref q_490 :: .ref q_491 :: .ref q_492 :: .int 0 :: .int 0 :: .int 0 :: .int 0 :: .int 0 :: .int 0 :: .int (-1) :: .int 0 :: .ref q_493 :: .int 0 :: .int 0 :: .ref q_494 :: .int 0 :: .int 0 :: .ref q_495 :: .int 0 :: .int 0 :: .ref q_496 :: .ref q_497 :: .ref q_498 :: .ref q_499 :: .int 0 :: .int 0 :: .ref q_500 :: .ref q_501 :: .ref q_502 :: .ref q_503 :: .ref q_504 :: .int 0 :: .ref q_505 :: .ref q_506 :: .int 0 :: .int 0 :: .ref q_507 :: .ref q_508 :: .ref q_509 :: .ref q_510 :: .ref q_511 :: .int (-1) :: .ref q_512 :: .ref q_513 :: .ref q_514 :: .ref q_515 :: .ref q_516 :: .ref q_517 :: .ref q_518 :: []), zi G q_497 49 (fun _ => 0), zi G q_500 147 (fun _ => 0), zz G q_501 3 (fun _ => 0)]) (wr := [zo q_446 6 [.ref q_459, .ref q_460, .ref q_461, .ref q_462, .int 0, .int 0, .int 0, .int 0, .int 0, .long 0], zb G q_459 2000 (fun _ => 0), zo q_447 2 [.int 0, .int 0, .int 0, .int 0, .int 0, .int 0], zo q_448 4 [.int 0, .int 0, .ref q_463], zo q_450 0 [.ref q_465, .int 0], zi G q_465 16 (fun _ => 0), zo q_453 3 [.ref q_469, .int 0, .int 0], zc G q_469 40 g_483, zo q_470 0 [.ref q_471, .int 0], zi G q_471 16 (fun _ => 0), zo q_454 1 [.ref q_472, .ref q_473, .ref q_474], zi G q_472 64 (fun _ => 0), zo q_473 0 [.ref q_475, .int 0], zi G q_475 384 (fun _ => 0), zo q_474 0 [.ref q_476, .int 0], zo q_455 7 [.ref q_477, .ref q_478, .int 0, .int 0], zi G q_477 16 (fun _ => 0), zo q_456 8 [.int 0, .int 0, .int 0, .int 0, .int 0, .int 0, .ref q_479], zi G q_457 4 zPr, zb G q_486 2000 (fun _ => 0), zi G q_488 403 (fun _ => 0), zi G q_489 403 (fun _ => 0), zi G q_490 403 (fun _ => 0), zj G q_491 403 (fun _ => 0), zi G q_493 4 (upd (upd (upd (upd (fun _ => 0) 0 1) 1 1) 2 5) 3 13), zi G q_494 8 (fun _ => 0), zi G q_495 4 (fun _ => 0), zi G q_496 8 (fun _ => 0), zi G q_498 49 (fun _ => 0), zi G q_499 1960 (fun _ => 0), zi G q_502 64 (fun _ => 0), zi G q_504 49 (fun _ => 0), zi G q_512 40320 (fun _ => 0), zi G q_513 40320 (fun _ => 0), zi G q_514 8 (fun _ => 0), zi G q_515 8 (fun _ => 0), zi G q_517 16 (fun _ => 0)]) [19, 29, 32, 33] [0, 1, 2, 3, 4, 5, 6, 7, 8, 9, 10, 11, 12, 13, 14, 15, 16, 17, 18, 20, 21, 22, 23, 24, 25, 26, 27, 28, 30, 31, 34, 35, 36, 37, 38, 39, 40] rfl rfl (by decide) (by decide) (z_runV E B (As := [.int y1]) (rest := [.int 0]) [19, 29, 32, 33] rfl (by decide) mv_X12_hold t_1575 0 (ci := 10) rfl rfl rfl (c_X12_hold_223 l G _ q_485 q_497 q_500 q_501 q_486 q_487 q_488 q_489 q_490 q_491 q_492 q_493 q_494 q_495 q_496 q_498 q_499 q_502 q_503 q_504 q_505 q_506 q_507 q_508 q_509 q_510 q_511 q_512 q_513 q_514 q_515 q_516 q_517 q_518 y1) rfl rfl ⟨Nat.le_of_ble_eq_true rfl, Nat.le_of_ble_eq_true rfl⟩ rfl hl.1 rfl (Nat.le_of_ble_eq_true rfl) dL_law_912 ⟨(Nat.le_of_ble_eq_true rfl), (Nat.le_of_ble_eq_true rfl)⟩) (fun r t H locs hp hB J => ?_)
    have B := J _ hB
    have B : zB G A s.heap [zo q_446 6 [.ref q_459, .ref q_460, .ref q_461, .ref q_462, .int 0, .int 0, .int 0, .int 0, .int 0, .long 0], zb G q_459 2000 (fun _ => 0), zo q_447 2 [.int 0, .int 0, .int 0, .int 0, .int 0, .int 0], zo q_448 4 [.int 0, .int 0, .ref q_463], zo q_450 0 [.ref q_465, .int 0], zi G q_465 16 (fun _ => 0), zo q_453 3 [.ref q_469, .int 0, .int 0], zc G q_469 40 g_483, zo q_470 0 [.ref q_471, .int 0], zi G q_471 16 (fun _ => 0), zo q_454 1 [.ref q_472, .ref q_473, .ref q_474], zi G q_472 64 (fun _ => 0), zo q_473 0 [.ref q_475, .int 0], zi G q_475 384 (fun _ => 0), zo q_474 0 [.ref q_476, .int 0], zo q_455 7 [.ref q_477, .ref q_478, .int 0, .int 0], zi G q_477 16 (fun _ => 0), zo q_456 8 [.int 0, .int 0, .int 0, .int 0, .int 0, .int 0, .ref q_479], zi G q_457 4 zPr, zb G q_486 2000 (fun _ => 0), zi G q_488 403 (fun _ => 0), zi G q_489 403 (fun _ => 0), zi G q_490 403 (fun _ => 0), zj G q_491 403 (fun _ => 0), zi G q_493 4 (upd (upd (upd (upd (fun _ => 0) 0 1) 1 1) 2 5) 3 13), zi G q_494 8 (fun _ => 0), zi G q_495 4 (fun _ => 0), zi G q_496 8 (fun _ => 0), zi G q_498 49 (fun _ => 0), zi G q_499 1960 (fun _ => 0), zi G q_502 64 (fun _ => 0), zi G q_504 49 (fun _ => 0), zi G q_512 40320 (fun _ => 0), zi G q_513 40320 (fun _ => 0), zi G q_514 8 (fun _ => 0), zi G q_515 8 (fun _ => 0), zi G q_517 16 (fun _ => 0)] _ _ := B
    rcases hp with ⟨c_551, rfl⟩ | ⟨c_552, rfl⟩ | ⟨c_553, rfl⟩ | ⟨c_554, rfl⟩ | ⟨c_555, rfl⟩
    · skip
      refine lv_icmp_eq (tgt := 966) E.x E.b dL_law_915 (by decide) (fun _ => ?_) (fun c => absurd (by decide +kernel) c)
      refine lv_iinc (v := 6) (lv' := [(3, .int 6), (2, .ref q_485), (1, .ref q_445), (0, .ref b)]) E.x E.b dL_law_966 hl (k := 0) rfl (by decide +kernel) (by decide) rfl (fun ls hl => ?_)
      refine lv_goto (tgt := 18) E.x E.b dL_law_969 (by decide) ?_
      refine lv_iload_n E.x E.b dL_law_18 rfl (lv_at hl 0 rfl) ?_
      refine lv_aload_n E.x E.b dL_law_19 rfl (lv_at hl 3 rfl) ?_
      refine va_slen E.x E.b hX hbl hbA B.2.2 dL_law_20 (z_topi 6 rfl ?_)
      refine lv_bipush (v := 6) E.x E.b dL_law_21 (by decide) ?_
      refine lv_isub E.x E.b dL_law_23 (z_topi 0 (by decide +kernel) ?_)
      refine lv_icmp_gt (tgt := 972) E.x E.b dL_law_24 (by decide) (fun _ => ?_) (fun c => absurd (by decide +kernel) c)
      refine lv_iconst (v := 1) E.x E.b dL_law_972 (by decide) ?_
      refine va_forget (fun q hq => hAe _ (B.2.2.2.2 q hq)) ?_
      refine W.widen (k := 600000) (n := 7302249) (Nat.le_of_ble_eq_true rfl) (Nat.le_of_ble_eq_true rfl) ?_
      exact lw_ret E.x E.b hr hlocks dL_law_973
    · exfalso; omega
    · exfalso; omega
    · exfalso; omega
    · exfalso; omega
  · skip
    refine lv_aload_n E.x E.b dL_law_906 rfl (lv_at hl 1 rfl) ?_
    refine lv_aload_n E.x E.b dL_law_907 rfl (lv_at hl 3 rfl) ?_
    refine lv_iload_n E.x E.b dL_law_908 rfl (lv_at hl 0 rfl) ?_
    refine lv_iconst (v := 1) E.x E.b dL_law_909 (by decide) ?_
    refine lv_iadd E.x E.b dL_law_910 (z_topi 1 (by decide +kernel) ?_)
    refine va_sld E.x E.b hX hbl hbA B.2.2 (show ¬ ((1 : Int32) < 0 ∨ 6 ≤ (1 : Int32).toNatClampNeg) by decide +kernel) dL_law_911 (z_topi y1 hy1.symm ?_)
    refine z_calli E B (wc := [zo q_485 10 (.int 0 :: .ref q_486 :: .int 0 :: .ref q_487 :: .int 0 :: .ref q_488 :: .ref q_489 :: .ref q_490 :: .ref q_491 :: .ref q_492 :: .int 0 :: .int 0 :: .int 0 :: .int 0 :: .int 0 :: .int 0 :: .int (-1) :: .int 0 :: .ref q_493 :: .int 0 :: .int 0 :: .ref q_494 :: .int 0 :: .int 0 :: .ref q_495 :: .int 0 :: .int 0 :: .ref q_496 :: .ref q_497 :: .ref q_498 :: .ref q_499 :: .int 0 :: .int 0 :: .ref q_500 :: .ref q_501 :: .ref q_502 :: .ref q_503 :: .ref q_504 :: .int 0 :: .ref q_505 :: .ref q_506 :: .int 0 :: .int 0 :: .ref q_507 :: .ref q_508 :: .ref q_509 :: .ref q_510 :: .ref q_511 :: .int (-1) :: .ref q_512 :: .ref q_513 :: .ref q_514 :: .ref q_515 :: .ref q_516 :: .ref q_517 :: .ref q_518 :: []), zi G q_497 49 (fun _ => 0), zi G q_500 147 (fun _ => 0), zz G q_501 3 (fun _ => 0)]) (wr := [zo q_446 6 [.ref q_459, .ref q_460, .ref q_461, .ref q_462, .int 0, .int 0, .int 0, .int 0, .int 0, .long 0], zb G q_459 2000 (fun _ => 0), zo q_447 2 [.int 0, .int 0, .int 0, .int 0, .int 0, .int 0], zo q_448 4 [.int 0, .int 0, .ref q_463], zo q_450 0 [.ref q_465, .int 0], zi G q_465 16 (fun _ => 0), zo q_453 3 [.ref q_469, .int 0, .int 0], zc G q_469 40 g_483, zo q_470 0 [.ref q_471, .int 0], zi G q_471 16 (fun _ => 0), zo q_454 1 [.ref q_472, .ref q_473, .ref q_474], zi G q_472 64 (fun _ => 0), zo q_473 0 [.ref q_475, .int 0], zi G q_475 384 (fun _ => 0), zo q_474 0 [.ref q_476, .int 0], zo q_455 7 [.ref q_477, .ref q_478, .int 0, .int 0], zi G q_477 16 (fun _ => 0), zo q_456 8 [.int 0, .int 0, .int 0, .int 0, .int 0, .int 0, .ref q_479], zi G q_457 4 zPr, zb G q_486 2000 (fun _ => 0), zi G q_488 403 (fun _ => 0), zi G q_489 403 (fun _ => 0), zi G q_490 403 (fun _ => 0), zj G q_491 403 (fun _ => 0), zi G q_493 4 (upd (upd (upd (upd (fun _ => 0) 0 1) 1 1) 2 5) 3 13), zi G q_494 8 (fun _ => 0), zi G q_495 4 (fun _ => 0), zi G q_496 8 (fun _ => 0), zi G q_498 49 (fun _ => 0), zi G q_499 1960 (fun _ => 0), zi G q_502 64 (fun _ => 0), zi G q_504 49 (fun _ => 0), zi G q_512 40320 (fun _ => 0), zi G q_513 40320 (fun _ => 0), zi G q_514 8 (fun _ => 0), zi G q_515 8 (fun _ => 0), zi G q_517 16 (fun _ => 0)]) [19, 29, 32, 33] [0, 1, 2, 3, 4, 5, 6, 7, 8, 9, 10, 11, 12, 13, 14, 15, 16, 17, 18, 20, 21, 22, 23, 24, 25, 26, 27, 28, 30, 31, 34, 35, 36, 37, 38, 39, 40] rfl rfl (by decide) (by decide) (z_runV E B (As := [.int y1]) (rest := [.int 0]) [19, 29, 32, 33] rfl (by decide) mv_X12_hold t_1575 0 (ci := 10) rfl rfl rfl (c_X12_hold_223 l G _ q_485 q_497 q_500 q_501 q_486 q_487 q_488 q_489 q_490 q_491 q_492 q_493 q_494 q_495 q_496 q_498 q_499 q_502 q_503 q_504 q_505 q_506 q_507 q_508 q_509 q_510 q_511 q_512 q_513 q_514 q_515 q_516 q_517 q_518 y1) rfl rfl ⟨Nat.le_of_ble_eq_true rfl, Nat.le_of_ble_eq_true rfl⟩ rfl hl.1 rfl (Nat.le_of_ble_eq_true rfl) dL_law_912 ⟨(Nat.le_of_ble_eq_true rfl), (Nat.le_of_ble_eq_true rfl)⟩) (fun r t H locs hp hB J => ?_)
    have B := J _ hB
    have B : zB G A s.heap [zo q_446 6 [.ref q_459, .ref q_460, .ref q_461, .ref q_462, .int 0, .int 0, .int 0, .int 0, .int 0, .long 0], zb G q_459 2000 (fun _ => 0), zo q_447 2 [.int 0, .int 0, .int 0, .int 0, .int 0, .int 0], zo q_448 4 [.int 0, .int 0, .ref q_463], zo q_450 0 [.ref q_465, .int 0], zi G q_465 16 (fun _ => 0), zo q_453 3 [.ref q_469, .int 0, .int 0], zc G q_469 40 g_483, zo q_470 0 [.ref q_471, .int 0], zi G q_471 16 (fun _ => 0), zo q_454 1 [.ref q_472, .ref q_473, .ref q_474], zi G q_472 64 (fun _ => 0), zo q_473 0 [.ref q_475, .int 0], zi G q_475 384 (fun _ => 0), zo q_474 0 [.ref q_476, .int 0], zo q_455 7 [.ref q_477, .ref q_478, .int 0, .int 0], zi G q_477 16 (fun _ => 0), zo q_456 8 [.int 0, .int 0, .int 0, .int 0, .int 0, .int 0, .ref q_479], zi G q_457 4 zPr, zb G q_486 2000 (fun _ => 0), zi G q_488 403 (fun _ => 0), zi G q_489 403 (fun _ => 0), zi G q_490 403 (fun _ => 0), zj G q_491 403 (fun _ => 0), zi G q_493 4 (upd (upd (upd (upd (fun _ => 0) 0 1) 1 1) 2 5) 3 13), zi G q_494 8 (fun _ => 0), zi G q_495 4 (fun _ => 0), zi G q_496 8 (fun _ => 0), zi G q_498 49 (fun _ => 0), zi G q_499 1960 (fun _ => 0), zi G q_502 64 (fun _ => 0), zi G q_504 49 (fun _ => 0), zi G q_512 40320 (fun _ => 0), zi G q_513 40320 (fun _ => 0), zi G q_514 8 (fun _ => 0), zi G q_515 8 (fun _ => 0), zi G q_517 16 (fun _ => 0)] _ _ := B
    rcases hp with ⟨c_556, rfl⟩ | ⟨c_557, rfl⟩ | ⟨c_558, rfl⟩ | ⟨c_559, rfl⟩ | ⟨c_560, rfl⟩
    · exfalso; omega
    · skip
      refine lv_icmp_eq (tgt := 966) E.x E.b dL_law_915 (by decide) (fun _ => ?_) (fun c => absurd (by decide +kernel) c)
      refine lv_iinc (v := 6) (lv' := [(3, .int 6), (2, .ref q_485), (1, .ref q_445), (0, .ref b)]) E.x E.b dL_law_966 hl (k := 0) rfl (by decide +kernel) (by decide) rfl (fun ls hl => ?_)
      refine lv_goto (tgt := 18) E.x E.b dL_law_969 (by decide) ?_
      refine lv_iload_n E.x E.b dL_law_18 rfl (lv_at hl 0 rfl) ?_
      refine lv_aload_n E.x E.b dL_law_19 rfl (lv_at hl 3 rfl) ?_
      refine va_slen E.x E.b hX hbl hbA B.2.2 dL_law_20 (z_topi 6 rfl ?_)
      refine lv_bipush (v := 6) E.x E.b dL_law_21 (by decide) ?_
      refine lv_isub E.x E.b dL_law_23 (z_topi 0 (by decide +kernel) ?_)
      refine lv_icmp_gt (tgt := 972) E.x E.b dL_law_24 (by decide) (fun _ => ?_) (fun c => absurd (by decide +kernel) c)
      refine lv_iconst (v := 1) E.x E.b dL_law_972 (by decide) ?_
      refine va_forget (fun q hq => hAe _ (B.2.2.2.2 q hq)) ?_
      refine W.widen (k := 600000) (n := 7302249) (Nat.le_of_ble_eq_true rfl) (Nat.le_of_ble_eq_true rfl) ?_
      exact lw_ret E.x E.b hr hlocks dL_law_973
    · exfalso; omega
    · exfalso; omega
    · exfalso; omega
  · skip
    refine lv_aload_n E.x E.b dL_law_906 rfl (lv_at hl 1 rfl) ?_
    refine lv_aload_n E.x E.b dL_law_907 rfl (lv_at hl 3 rfl) ?_
    refine lv_iload_n E.x E.b dL_law_908 rfl (lv_at hl 0 rfl) ?_
    refine lv_iconst (v := 1) E.x E.b dL_law_909 (by decide) ?_
    refine lv_iadd E.x E.b dL_law_910 (z_topi 1 (by decide +kernel) ?_)
    refine va_sld E.x E.b hX hbl hbA B.2.2 (show ¬ ((1 : Int32) < 0 ∨ 6 ≤ (1 : Int32).toNatClampNeg) by decide +kernel) dL_law_911 (z_topi y1 hy1.symm ?_)
    refine z_calli E B (wc := [zo q_485 10 (.int 0 :: .ref q_486 :: .int 0 :: .ref q_487 :: .int 0 :: .ref q_488 :: .ref q_489 :: .ref q_490 :: .ref q_491 :: .ref q_492 :: .int 0 :: .int 0 :: .int 0 :: .int 0 :: .int 0 :: .int 0 :: .int (-1) :: .int 0 :: .ref q_493 :: .int 0 :: .int 0 :: .ref q_494 :: .int 0 :: .int 0 :: .ref q_495 :: .int 0 :: .int 0 :: .ref q_496 :: .ref q_497 :: .ref q_498 :: .ref q_499 :: .int 0 :: .int 0 :: .ref q_500 :: .ref q_501 :: .ref q_502 :: .ref q_503 :: .ref q_504 :: .int 0 :: .ref q_505 :: .ref q_506 :: .int 0 :: .int 0 :: .ref q_507 :: .ref q_508 :: .ref q_509 :: .ref q_510 :: .ref q_511 :: .int (-1) :: .ref q_512 :: .ref q_513 :: .ref q_514 :: .ref q_515 :: .ref q_516 :: .ref q_517 :: .ref q_518 :: []), zi G q_497 49 (fun _ => 0), zi G q_500 147 (fun _ => 0), zz G q_501 3 (fun _ => 0)]) (wr := [zo q_446 6 [.ref q_459, .ref q_460, .ref q_461, .ref q_462, .int 0, .int 0, .int 0, .int 0, .int 0, .long 0], zb G q_459 2000 (fun _ => 0), zo q_447 2 [.int 0, .int 0, .int 0, .int 0, .int 0, .int 0], zo q_448 4 [.int 0, .int 0, .ref q_463], zo q_450 0 [.ref q_465, .int 0], zi G q_465 16 (fun _ => 0), zo q_453 3 [.ref q_469, .int 0, .int 0], zc G q_469 40 g_483, zo q_470 0 [.ref q_471, .int 0], zi G q_471 16 (fun _ => 0), zo q_454 1 [.ref q_472, .ref q_473, .ref q_474], zi G q_472 64 (fun _ => 0), zo q_473 0 [.ref q_475, .int 0], zi G q_475 384 (fun _ => 0), zo q_474 0 [.ref q_476, .int 0], zo q_455 7 [.ref q_477, .ref q_478, .int 0, .int 0], zi G q_477 16 (fun _ => 0), zo q_456 8 [.int 0, .int 0, .int 0, .int 0, .int 0, .int 0, .ref q_479], zi G q_457 4 zPr, zb G q_486 2000 (fun _ => 0), zi G q_488 403 (fun _ => 0), zi G q_489 403 (fun _ => 0), zi G q_490 403 (fun _ => 0), zj G q_491 403 (fun _ => 0), zi G q_493 4 (upd (upd (upd (upd (fun _ => 0) 0 1) 1 1) 2 5) 3 13), zi G q_494 8 (fun _ => 0), zi G q_495 4 (fun _ => 0), zi G q_496 8 (fun _ => 0), zi G q_498 49 (fun _ => 0), zi G q_499 1960 (fun _ => 0), zi G q_502 64 (fun _ => 0), zi G q_504 49 (fun _ => 0), zi G q_512 40320 (fun _ => 0), zi G q_513 40320 (fun _ => 0), zi G q_514 8 (fun _ => 0), zi G q_515 8 (fun _ => 0), zi G q_517 16 (fun _ => 0)]) [19, 29, 32, 33] [0, 1, 2, 3, 4, 5, 6, 7, 8, 9, 10, 11, 12, 13, 14, 15, 16, 17, 18, 20, 21, 22, 23, 24, 25, 26, 27, 28, 30, 31, 34, 35, 36, 37, 38, 39, 40] rfl rfl (by decide) (by decide) (z_runV E B (As := [.int y1]) (rest := [.int 1]) [19, 29, 32, 33] rfl (by decide) mv_X12_hold t_1575 0 (ci := 10) rfl rfl rfl (c_X12_hold_223 l G _ q_485 q_497 q_500 q_501 q_486 q_487 q_488 q_489 q_490 q_491 q_492 q_493 q_494 q_495 q_496 q_498 q_499 q_502 q_503 q_504 q_505 q_506 q_507 q_508 q_509 q_510 q_511 q_512 q_513 q_514 q_515 q_516 q_517 q_518 y1) rfl rfl ⟨Nat.le_of_ble_eq_true rfl, Nat.le_of_ble_eq_true rfl⟩ rfl hl.1 rfl (Nat.le_of_ble_eq_true rfl) dL_law_912 ⟨(Nat.le_of_ble_eq_true rfl), (Nat.le_of_ble_eq_true rfl)⟩) (fun r t H locs hp hB J => ?_)
    have B := J _ hB
    have B : zB G A s.heap [zo q_446 6 [.ref q_459, .ref q_460, .ref q_461, .ref q_462, .int 0, .int 0, .int 0, .int 0, .int 0, .long 0], zb G q_459 2000 (fun _ => 0), zo q_447 2 [.int 0, .int 0, .int 0, .int 0, .int 0, .int 0], zo q_448 4 [.int 0, .int 0, .ref q_463], zo q_450 0 [.ref q_465, .int 0], zi G q_465 16 (fun _ => 0), zo q_453 3 [.ref q_469, .int 0, .int 0], zc G q_469 40 g_483, zo q_470 0 [.ref q_471, .int 0], zi G q_471 16 (fun _ => 0), zo q_454 1 [.ref q_472, .ref q_473, .ref q_474], zi G q_472 64 (fun _ => 0), zo q_473 0 [.ref q_475, .int 0], zi G q_475 384 (fun _ => 0), zo q_474 0 [.ref q_476, .int 0], zo q_455 7 [.ref q_477, .ref q_478, .int 0, .int 0], zi G q_477 16 (fun _ => 0), zo q_456 8 [.int 0, .int 0, .int 0, .int 0, .int 0, .int 0, .ref q_479], zi G q_457 4 zPr, zb G q_486 2000 (fun _ => 0), zi G q_488 403 (fun _ => 0), zi G q_489 403 (fun _ => 0), zi G q_490 403 (fun _ => 0), zj G q_491 403 (fun _ => 0), zi G q_493 4 (upd (upd (upd (upd (fun _ => 0) 0 1) 1 1) 2 5) 3 13), zi G q_494 8 (fun _ => 0), zi G q_495 4 (fun _ => 0), zi G q_496 8 (fun _ => 0), zi G q_498 49 (fun _ => 0), zi G q_499 1960 (fun _ => 0), zi G q_502 64 (fun _ => 0), zi G q_504 49 (fun _ => 0), zi G q_512 40320 (fun _ => 0), zi G q_513 40320 (fun _ => 0), zi G q_514 8 (fun _ => 0), zi G q_515 8 (fun _ => 0), zi G q_517 16 (fun _ => 0)] _ _ := B
    rcases hp with ⟨c_561, rfl⟩ | ⟨c_562, rfl⟩ | ⟨c_563, rfl⟩ | ⟨c_564, rfl⟩ | ⟨c_565, rfl⟩
    · exfalso; omega
    · exfalso; omega
    · skip
      refine lv_icmp_eq (tgt := 966) E.x E.b dL_law_915 (by decide) (fun _ => ?_) (fun c => absurd (by decide +kernel) c)
      refine lv_iinc (v := 6) (lv' := [(3, .int 6), (2, .ref q_485), (1, .ref q_445), (0, .ref b)]) E.x E.b dL_law_966 hl (k := 0) rfl (by decide +kernel) (by decide) rfl (fun ls hl => ?_)
      refine lv_goto (tgt := 18) E.x E.b dL_law_969 (by decide) ?_
      refine lv_iload_n E.x E.b dL_law_18 rfl (lv_at hl 0 rfl) ?_
      refine lv_aload_n E.x E.b dL_law_19 rfl (lv_at hl 3 rfl) ?_
      refine va_slen E.x E.b hX hbl hbA B.2.2 dL_law_20 (z_topi 6 rfl ?_)
      refine lv_bipush (v := 6) E.x E.b dL_law_21 (by decide) ?_
      refine lv_isub E.x E.b dL_law_23 (z_topi 0 (by decide +kernel) ?_)
      refine lv_icmp_gt (tgt := 972) E.x E.b dL_law_24 (by decide) (fun _ => ?_) (fun c => absurd (by decide +kernel) c)
      refine lv_iconst (v := 1) E.x E.b dL_law_972 (by decide) ?_
      refine va_forget (fun q hq => hAe _ (B.2.2.2.2 q hq)) ?_
      refine W.widen (k := 600000) (n := 7302249) (Nat.le_of_ble_eq_true rfl) (Nat.le_of_ble_eq_true rfl) ?_
      exact lw_ret E.x E.b hr hlocks dL_law_973
    · exfalso; omega
    · exfalso; omega
  · skip
    refine lv_aload_n E.x E.b dL_law_906 rfl (lv_at hl 1 rfl) ?_
    refine lv_aload_n E.x E.b dL_law_907 rfl (lv_at hl 3 rfl) ?_
    refine lv_iload_n E.x E.b dL_law_908 rfl (lv_at hl 0 rfl) ?_
    refine lv_iconst (v := 1) E.x E.b dL_law_909 (by decide) ?_
    refine lv_iadd E.x E.b dL_law_910 (z_topi 1 (by decide +kernel) ?_)
    refine va_sld E.x E.b hX hbl hbA B.2.2 (show ¬ ((1 : Int32) < 0 ∨ 6 ≤ (1 : Int32).toNatClampNeg) by decide +kernel) dL_law_911 (z_topi y1 hy1.symm ?_)
    refine z_calli E B (wc := [zo q_485 10 (.int 0 :: .ref q_486 :: .int 0 :: .ref q_487 :: .int 0 :: .ref q_488 :: .ref q_489 :: .ref q_490 :: .ref q_491 :: .ref q_492 :: .int 0 :: .int 0 :: .int 0 :: .int 0 :: .int 0 :: .int 0 :: .int (-1) :: .int 0 :: .ref q_493 :: .int 0 :: .int 0 :: .ref q_494 :: .int 0 :: .int 0 :: .ref q_495 :: .int 0 :: .int 0 :: .ref q_496 :: .ref q_497 :: .ref q_498 :: .ref q_499 :: .int 0 :: .int 0 :: .ref q_500 :: .ref q_501 :: .ref q_502 :: .ref q_503 :: .ref q_504 :: .int 0 :: .ref q_505 :: .ref q_506 :: .int 0 :: .int 0 :: .ref q_507 :: .ref q_508 :: .ref q_509 :: .ref q_510 :: .ref q_511 :: .int (-1) :: .ref q_512 :: .ref q_513 :: .ref q_514 :: .ref q_515 :: .ref q_516 :: .ref q_517 :: .ref q_518 :: []), zi G q_497 49 (fun _ => 0), zi G q_500 147 (fun _ => 0), zz G q_501 3 (fun _ => 0)]) (wr := [zo q_446 6 [.ref q_459, .ref q_460, .ref q_461, .ref q_462, .int 0, .int 0, .int 0, .int 0, .int 0, .long 0], zb G q_459 2000 (fun _ => 0), zo q_447 2 [.int 0, .int 0, .int 0, .int 0, .int 0, .int 0], zo q_448 4 [.int 0, .int 0, .ref q_463], zo q_450 0 [.ref q_465, .int 0], zi G q_465 16 (fun _ => 0), zo q_453 3 [.ref q_469, .int 0, .int 0], zc G q_469 40 g_483, zo q_470 0 [.ref q_471, .int 0], zi G q_471 16 (fun _ => 0), zo q_454 1 [.ref q_472, .ref q_473, .ref q_474], zi G q_472 64 (fun _ => 0), zo q_473 0 [.ref q_475, .int 0], zi G q_475 384 (fun _ => 0), zo q_474 0 [.ref q_476, .int 0], zo q_455 7 [.ref q_477, .ref q_478, .int 0, .int 0], zi G q_477 16 (fun _ => 0), zo q_456 8 [.int 0, .int 0, .int 0, .int 0, .int 0, .int 0, .ref q_479], zi G q_457 4 zPr, zb G q_486 2000 (fun _ => 0), zi G q_488 403 (fun _ => 0), zi G q_489 403 (fun _ => 0), zi G q_490 403 (fun _ => 0), zj G q_491 403 (fun _ => 0), zi G q_493 4 (upd (upd (upd (upd (fun _ => 0) 0 1) 1 1) 2 5) 3 13), zi G q_494 8 (fun _ => 0), zi G q_495 4 (fun _ => 0), zi G q_496 8 (fun _ => 0), zi G q_498 49 (fun _ => 0), zi G q_499 1960 (fun _ => 0), zi G q_502 64 (fun _ => 0), zi G q_504 49 (fun _ => 0), zi G q_512 40320 (fun _ => 0), zi G q_513 40320 (fun _ => 0), zi G q_514 8 (fun _ => 0), zi G q_515 8 (fun _ => 0), zi G q_517 16 (fun _ => 0)]) [19, 29, 32, 33] [0, 1, 2, 3, 4, 5, 6, 7, 8, 9, 10, 11, 12, 13, 14, 15, 16, 17, 18, 20, 21, 22, 23, 24, 25, 26, 27, 28, 30, 31, 34, 35, 36, 37, 38, 39, 40] rfl rfl (by decide) (by decide) (z_runV E B (As := [.int y1]) (rest := [.int 1]) [19, 29, 32, 33] rfl (by decide) mv_X12_hold t_1575 0 (ci := 10) rfl rfl rfl (c_X12_hold_223 l G _ q_485 q_497 q_500 q_501 q_486 q_487 q_488 q_489 q_490 q_491 q_492 q_493 q_494 q_495 q_496 q_498 q_499 q_502 q_503 q_504 q_505 q_506 q_507 q_508 q_509 q_510 q_511 q_512 q_513 q_514 q_515 q_516 q_517 q_518 y1) rfl rfl ⟨Nat.le_of_ble_eq_true rfl, Nat.le_of_ble_eq_true rfl⟩ rfl hl.1 rfl (Nat.le_of_ble_eq_true rfl) dL_law_912 ⟨(Nat.le_of_ble_eq_true rfl), (Nat.le_of_ble_eq_true rfl)⟩) (fun r t H locs hp hB J => ?_)
    have B := J _ hB
    have B : zB G A s.heap [zo q_446 6 [.ref q_459, .ref q_460, .ref q_461, .ref q_462, .int 0, .int 0, .int 0, .int 0, .int 0, .long 0], zb G q_459 2000 (fun _ => 0), zo q_447 2 [.int 0, .int 0, .int 0, .int 0, .int 0, .int 0], zo q_448 4 [.int 0, .int 0, .ref q_463], zo q_450 0 [.ref q_465, .int 0], zi G q_465 16 (fun _ => 0), zo q_453 3 [.ref q_469, .int 0, .int 0], zc G q_469 40 g_483, zo q_470 0 [.ref q_471, .int 0], zi G q_471 16 (fun _ => 0), zo q_454 1 [.ref q_472, .ref q_473, .ref q_474], zi G q_472 64 (fun _ => 0), zo q_473 0 [.ref q_475, .int 0], zi G q_475 384 (fun _ => 0), zo q_474 0 [.ref q_476, .int 0], zo q_455 7 [.ref q_477, .ref q_478, .int 0, .int 0], zi G q_477 16 (fun _ => 0), zo q_456 8 [.int 0, .int 0, .int 0, .int 0, .int 0, .int 0, .ref q_479], zi G q_457 4 zPr, zb G q_486 2000 (fun _ => 0), zi G q_488 403 (fun _ => 0), zi G q_489 403 (fun _ => 0), zi G q_490 403 (fun _ => 0), zj G q_491 403 (fun _ => 0), zi G q_493 4 (upd (upd (upd (upd (fun _ => 0) 0 1) 1 1) 2 5) 3 13), zi G q_494 8 (fun _ => 0), zi G q_495 4 (fun _ => 0), zi G q_496 8 (fun _ => 0), zi G q_498 49 (fun _ => 0), zi G q_499 1960 (fun _ => 0), zi G q_502 64 (fun _ => 0), zi G q_504 49 (fun _ => 0), zi G q_512 40320 (fun _ => 0), zi G q_513 40320 (fun _ => 0), zi G q_514 8 (fun _ => 0), zi G q_515 8 (fun _ => 0), zi G q_517 16 (fun _ => 0)] _ _ := B
    rcases hp with ⟨c_566, rfl⟩ | ⟨c_567, rfl⟩ | ⟨c_568, rfl⟩ | ⟨c_569, rfl⟩ | ⟨c_570, rfl⟩
    · exfalso; omega
    · exfalso; omega
    · exfalso; omega
    · skip
      refine lv_icmp_eq (tgt := 966) E.x E.b dL_law_915 (by decide) (fun _ => ?_) (fun c => absurd (by decide +kernel) c)
      refine lv_iinc (v := 6) (lv' := [(3, .int 6), (2, .ref q_485), (1, .ref q_445), (0, .ref b)]) E.x E.b dL_law_966 hl (k := 0) rfl (by decide +kernel) (by decide) rfl (fun ls hl => ?_)
      refine lv_goto (tgt := 18) E.x E.b dL_law_969 (by decide) ?_
      refine lv_iload_n E.x E.b dL_law_18 rfl (lv_at hl 0 rfl) ?_
      refine lv_aload_n E.x E.b dL_law_19 rfl (lv_at hl 3 rfl) ?_
      refine va_slen E.x E.b hX hbl hbA B.2.2 dL_law_20 (z_topi 6 rfl ?_)
      refine lv_bipush (v := 6) E.x E.b dL_law_21 (by decide) ?_
      refine lv_isub E.x E.b dL_law_23 (z_topi 0 (by decide +kernel) ?_)
      refine lv_icmp_gt (tgt := 972) E.x E.b dL_law_24 (by decide) (fun _ => ?_) (fun c => absurd (by decide +kernel) c)
      refine lv_iconst (v := 1) E.x E.b dL_law_972 (by decide) ?_
      refine va_forget (fun q hq => hAe _ (B.2.2.2.2 q hq)) ?_
      refine W.widen (k := 600000) (n := 7302249) (Nat.le_of_ble_eq_true rfl) (Nat.le_of_ble_eq_true rfl) ?_
      exact lw_ret E.x E.b hr hlocks dL_law_973
    · exfalso; omega
  · skip
    refine lv_aload_n E.x E.b dL_law_906 rfl (lv_at hl 1 rfl) ?_
    refine lv_aload_n E.x E.b dL_law_907 rfl (lv_at hl 3 rfl) ?_
    refine lv_iload_n E.x E.b dL_law_908 rfl (lv_at hl 0 rfl) ?_
    refine lv_iconst (v := 1) E.x E.b dL_law_909 (by decide) ?_
    refine lv_iadd E.x E.b dL_law_910 (z_topi 1 (by decide +kernel) ?_)
    refine va_sld E.x E.b hX hbl hbA B.2.2 (show ¬ ((1 : Int32) < 0 ∨ 6 ≤ (1 : Int32).toNatClampNeg) by decide +kernel) dL_law_911 (z_topi y1 hy1.symm ?_)
    refine z_calli E B (wc := [zo q_485 10 (.int 0 :: .ref q_486 :: .int 0 :: .ref q_487 :: .int 0 :: .ref q_488 :: .ref q_489 :: .ref q_490 :: .ref q_491 :: .ref q_492 :: .int 0 :: .int 0 :: .int 0 :: .int 0 :: .int 0 :: .int 0 :: .int (-1) :: .int 0 :: .ref q_493 :: .int 0 :: .int 0 :: .ref q_494 :: .int 0 :: .int 0 :: .ref q_495 :: .int 0 :: .int 0 :: .ref q_496 :: .ref q_497 :: .ref q_498 :: .ref q_499 :: .int 0 :: .int 0 :: .ref q_500 :: .ref q_501 :: .ref q_502 :: .ref q_503 :: .ref q_504 :: .int 0 :: .ref q_505 :: .ref q_506 :: .int 0 :: .int 0 :: .ref q_507 :: .ref q_508 :: .ref q_509 :: .ref q_510 :: .ref q_511 :: .int (-1) :: .ref q_512 :: .ref q_513 :: .ref q_514 :: .ref q_515 :: .ref q_516 :: .ref q_517 :: .ref q_518 :: []), zi G q_497 49 (fun _ => 0), zi G q_500 147 (fun _ => 0), zz G q_501 3 (fun _ => 0)]) (wr := [zo q_446 6 [.ref q_459, .ref q_460, .ref q_461, .ref q_462, .int 0, .int 0, .int 0, .int 0, .int 0, .long 0], zb G q_459 2000 (fun _ => 0), zo q_447 2 [.int 0, .int 0, .int 0, .int 0, .int 0, .int 0], zo q_448 4 [.int 0, .int 0, .ref q_463], zo q_450 0 [.ref q_465, .int 0], zi G q_465 16 (fun _ => 0), zo q_453 3 [.ref q_469, .int 0, .int 0], zc G q_469 40 g_483, zo q_470 0 [.ref q_471, .int 0], zi G q_471 16 (fun _ => 0), zo q_454 1 [.ref q_472, .ref q_473, .ref q_474], zi G q_472 64 (fun _ => 0), zo q_473 0 [.ref q_475, .int 0], zi G q_475 384 (fun _ => 0), zo q_474 0 [.ref q_476, .int 0], zo q_455 7 [.ref q_477, .ref q_478, .int 0, .int 0], zi G q_477 16 (fun _ => 0), zo q_456 8 [.int 0, .int 0, .int 0, .int 0, .int 0, .int 0, .ref q_479], zi G q_457 4 zPr, zb G q_486 2000 (fun _ => 0), zi G q_488 403 (fun _ => 0), zi G q_489 403 (fun _ => 0), zi G q_490 403 (fun _ => 0), zj G q_491 403 (fun _ => 0), zi G q_493 4 (upd (upd (upd (upd (fun _ => 0) 0 1) 1 1) 2 5) 3 13), zi G q_494 8 (fun _ => 0), zi G q_495 4 (fun _ => 0), zi G q_496 8 (fun _ => 0), zi G q_498 49 (fun _ => 0), zi G q_499 1960 (fun _ => 0), zi G q_502 64 (fun _ => 0), zi G q_504 49 (fun _ => 0), zi G q_512 40320 (fun _ => 0), zi G q_513 40320 (fun _ => 0), zi G q_514 8 (fun _ => 0), zi G q_515 8 (fun _ => 0), zi G q_517 16 (fun _ => 0)]) [19, 29, 32, 33] [0, 1, 2, 3, 4, 5, 6, 7, 8, 9, 10, 11, 12, 13, 14, 15, 16, 17, 18, 20, 21, 22, 23, 24, 25, 26, 27, 28, 30, 31, 34, 35, 36, 37, 38, 39, 40] rfl rfl (by decide) (by decide) (z_runV E B (As := [.int y1]) (rest := [.int 1]) [19, 29, 32, 33] rfl (by decide) mv_X12_hold t_1575 0 (ci := 10) rfl rfl rfl (c_X12_hold_223 l G _ q_485 q_497 q_500 q_501 q_486 q_487 q_488 q_489 q_490 q_491 q_492 q_493 q_494 q_495 q_496 q_498 q_499 q_502 q_503 q_504 q_505 q_506 q_507 q_508 q_509 q_510 q_511 q_512 q_513 q_514 q_515 q_516 q_517 q_518 y1) rfl rfl ⟨Nat.le_of_ble_eq_true rfl, Nat.le_of_ble_eq_true rfl⟩ rfl hl.1 rfl (Nat.le_of_ble_eq_true rfl) dL_law_912 ⟨(Nat.le_of_ble_eq_true rfl), (Nat.le_of_ble_eq_true rfl)⟩) (fun r t H locs hp hB J => ?_)
    have B := J _ hB
    have B : zB G A s.heap [zo q_446 6 [.ref q_459, .ref q_460, .ref q_461, .ref q_462, .int 0, .int 0, .int 0, .int 0, .int 0, .long 0], zb G q_459 2000 (fun _ => 0), zo q_447 2 [.int 0, .int 0, .int 0, .int 0, .int 0, .int 0], zo q_448 4 [.int 0, .int 0, .ref q_463], zo q_450 0 [.ref q_465, .int 0], zi G q_465 16 (fun _ => 0), zo q_453 3 [.ref q_469, .int 0, .int 0], zc G q_469 40 g_483, zo q_470 0 [.ref q_471, .int 0], zi G q_471 16 (fun _ => 0), zo q_454 1 [.ref q_472, .ref q_473, .ref q_474], zi G q_472 64 (fun _ => 0), zo q_473 0 [.ref q_475, .int 0], zi G q_475 384 (fun _ => 0), zo q_474 0 [.ref q_476, .int 0], zo q_455 7 [.ref q_477, .ref q_478, .int 0, .int 0], zi G q_477 16 (fun _ => 0), zo q_456 8 [.int 0, .int 0, .int 0, .int 0, .int 0, .int 0, .ref q_479], zi G q_457 4 zPr, zb G q_486 2000 (fun _ => 0), zi G q_488 403 (fun _ => 0), zi G q_489 403 (fun _ => 0), zi G q_490 403 (fun _ => 0), zj G q_491 403 (fun _ => 0), zi G q_493 4 (upd (upd (upd (upd (fun _ => 0) 0 1) 1 1) 2 5) 3 13), zi G q_494 8 (fun _ => 0), zi G q_495 4 (fun _ => 0), zi G q_496 8 (fun _ => 0), zi G q_498 49 (fun _ => 0), zi G q_499 1960 (fun _ => 0), zi G q_502 64 (fun _ => 0), zi G q_504 49 (fun _ => 0), zi G q_512 40320 (fun _ => 0), zi G q_513 40320 (fun _ => 0), zi G q_514 8 (fun _ => 0), zi G q_515 8 (fun _ => 0), zi G q_517 16 (fun _ => 0)] _ _ := B
    rcases hp with ⟨c_571, rfl⟩ | ⟨c_572, rfl⟩ | ⟨c_573, rfl⟩ | ⟨c_574, rfl⟩ | ⟨c_575, rfl⟩
    · exfalso; omega
    · exfalso; omega
    · exfalso; omega
    · exfalso; omega
    · skip
      refine lv_icmp_eq (tgt := 966) E.x E.b dL_law_915 (by decide) (fun _ => ?_) (fun c => absurd (by decide +kernel) c)
      refine lv_iinc (v := 6) (lv' := [(3, .int 6), (2, .ref q_485), (1, .ref q_445), (0, .ref b)]) E.x E.b dL_law_966 hl (k := 0) rfl (by decide +kernel) (by decide) rfl (fun ls hl => ?_)
      refine lv_goto (tgt := 18) E.x E.b dL_law_969 (by decide) ?_
      refine lv_iload_n E.x E.b dL_law_18 rfl (lv_at hl 0 rfl) ?_
      refine lv_aload_n E.x E.b dL_law_19 rfl (lv_at hl 3 rfl) ?_
      refine va_slen E.x E.b hX hbl hbA B.2.2 dL_law_20 (z_topi 6 rfl ?_)
      refine lv_bipush (v := 6) E.x E.b dL_law_21 (by decide) ?_
      refine lv_isub E.x E.b dL_law_23 (z_topi 0 (by decide +kernel) ?_)
      refine lv_icmp_gt (tgt := 972) E.x E.b dL_law_24 (by decide) (fun _ => ?_) (fun c => absurd (by decide +kernel) c)
      refine lv_iconst (v := 1) E.x E.b dL_law_972 (by decide) ?_
      refine va_forget (fun q hq => hAe _ (B.2.2.2.2 q hq)) ?_
      refine W.widen (k := 600000) (n := 7302249) (Nat.le_of_ble_eq_true rfl) (Nat.le_of_ble_eq_true rfl) ?_
      exact lw_ret E.x E.b hr hlocks dL_law_973
set_option maxHeartbeats 16000000 in
set_option maxRecDepth 100000 in
theorem law_26 {p : Program} {l : Launch} {e : Env} {s : State} {m : MethodId} {below : List Frame} {meth : Method} {c : Code} {G : zGT} {tp b : Nat} {xs : Nat → Int32} {A : Nat → Prop} (hAe : ∀ q, A q → s.heap.size ≤ q) (E : zE p s m c #[Value.ref b] G RL code 4 A) (hSs : zS G tp A s) (hr : meth.sig.returnType = ret) (hlocks : meth.locks = false) (hbl : b < s.heap.size) (hbA : ¬ A b) (hX : va_X b 6 xs s s.heap) (y0 y1 y2 y3 y4 y5 : Int32) (hy0 : y0 = xs 0) (hy1 : y1 = xs 1) (hy2 : y2 = xs 2) (hy3 : y3 = xs 3) (hy4 : y4 = xs 4) (hy5 : y5 = xs 5) (q_445 q_446 q_447 q_448 q_449 q_450 q_451 q_452 q_453 q_454 q_455 q_456 q_457 q_458 q_459 q_460 q_461 q_462 q_463 q_464 q_465 q_466 q_467 q_468 q_469 q_470 q_471 q_472 q_473 q_474 q_475 q_476 q_477 q_478 q_479 q_480 q_481 q_482 q_485 q_486 q_487 q_488 q_489 q_490 q_491 q_492 q_493 q_494 q_495 q_496 q_497 q_498 q_499 q_500 q_501 q_502 q_503 q_504 q_505 q_506 q_507 q_508 q_509 q_510 q_511 q_512 q_513 q_514 q_515 q_516 q_517 q_518 : Nat) (g_483 : Nat → Option Nat) (hf_484 : g_483 0 = some q_470) {H : Heap} {locs : List Loc} {ls : Array Slot} (B : zB G A s.heap [zo q_445 9 [.ref q_446, .ref q_447, .ref q_448, .ref q_449, .ref q_450, .ref q_451, .ref q_452, .ref q_453, .ref q_454, .ref q_455, .ref q_456, .ref q_457, .ref q_458, .null, .int 0, .int (-1)], zo q_446 6 [.ref q_459, .ref q_460, .ref q_461, .ref q_462, .int 0, .int 0, .int 0, .int 0, .int 0, .long 0], zb G q_459 2000 (fun _ => 0), zo q_447 2 [.int 0, .int 0, .int 0, .int 0, .int 0, .int 0], zo q_448 4 [.int 0, .int 0, .ref q_463], zo q_449 0 [.ref q_464, .int 0], zi G q_464 16 (fun _ => 0), zo q_450 0 [.ref q_465, .int 0], zi G q_465 16 (fun _ => 0), zc G q_451 3 (va_up (va_up (va_up (fun _ => none) 0 (some q_468)) 1 (some q_467)) 2 (some q_466)), zz G q_452 3 (fun _ => 0), zo q_453 3 [.ref q_469, .int 0, .int 0], zc G q_469 40 g_483, zo q_470 0 [.ref q_471, .int 0], zi G q_471 16 (fun _ => 0), zo q_454 1 [.ref q_472, .ref q_473, .ref q_474], zi G q_472 64 (fun _ => 0), zo q_473 0 [.ref q_475, .int 0], zi G q_475 384 (fun _ => 0), zo q_474 0 [.ref q_476, .int 0], zo q_455 7 [.ref q_477, .ref q_478, .int 0, .int 0], zi G q_477 16 (fun _ => 0), zo q_456 8 [.int 0, .int 0, .int 0, .int 0, .int 0, .int 0, .ref q_479], zi G q_457 4 zPr, zo q_468 0 [.ref q_480, .int 0], zi G q_480 16 (fun _ => 0), zo q_467 0 [.ref q_481, .int 0], zi G q_481 16 (fun _ => 0), zo q_466 0 [.ref q_482, .int 0], zi G q_482 16 (fun _ => 0), zo q_485 10 (.int 0 :: .ref q_486 :: .int 0 :: .ref q_487 :: .int 0 :: .ref q_488 :: .ref q_489 :: .ref q_490 :: .ref q_491 :: .ref q_492 :: .int 0 :: .int 0 :: .int 0 :: .int 0 :: .int 0 :: .int 0 :: .int (-1) :: .int 0 :: .ref q_493 :: .int 0 :: .int 0 :: .ref q_494 :: .int 0 :: .int 0 :: .ref q_495 :: .int 0 :: .int 0 :: .ref q_496 :: .ref q_497 :: .ref q_498 :: .ref q_499 :: .int 0 :: .int 0 :: .ref q_500 :: .ref q_501 :: .ref q_502 :: .ref q_503 :: .ref q_504 :: .int 0 :: .ref q_505 :: .ref q_506 :: .int 0 :: .int 0 :: .ref q_507 :: .ref q_508 :: .ref q_509 :: .ref q_510 :: .ref q_511 :: .int (-1) :: .ref q_512 :: .ref q_513 :: .ref q_514 :: .ref q_515 :: .ref q_516 :: .ref q_517 :: .ref q_518 :: []), zb G q_486 2000 (fun _ => 0), zi G q_488 403 (fun _ => 0), zi G q_489 403 (fun _ => 0), zi G q_490 403 (fun _ => 0), zj G q_491 403 (fun _ => 0), zi G q_493 4 (upd (upd (upd (upd (fun _ => 0) 0 1) 1 1) 2 5) 3 13), zi G q_494 8 (fun _ => 0), zi G q_495 4 (fun _ => 0), zi G q_496 8 (fun _ => 0), zi G q_497 49 (fun _ => 0), zi G q_498 49 (fun _ => 0), zi G q_499 1960 (fun _ => 0), zi G q_500 147 (fun _ => 0), zz G q_501 3 (fun _ => 0), zi G q_502 64 (fun _ => 0), zi G q_504 49 (fun _ => 0), zi G q_512 40320 (fun _ => 0), zi G q_513 40320 (fun _ => 0), zi G q_514 8 (fun _ => 0), zi G q_515 8 (fun _ => 0), zi G q_517 16 (fun _ => 0)] H locs) (hl : lv_has ls 4 [(3, .int 0), (2, .ref q_485), (1, .ref q_445), (0, .ref b)]) : W p l e room_1 s m #[Value.ref b] below meth c H locs 150 97037 (lw_Z below #[Value.ref b] s) (F0 m 920 ls []) := by
  refine lv_aload_n E.x E.b dL_law_920 rfl (lv_at hl 2 rfl) ?_
  refine lv_aload_n E.x E.b dL_law_921 rfl (lv_at hl 3 rfl) ?_
  refine lv_iload_n E.x E.b dL_law_922 rfl (lv_at hl 0 rfl) ?_
  refine lv_iconst (v := 1) E.x E.b dL_law_923 (by decide) ?_
  refine lv_iadd E.x E.b dL_law_924 (z_topi 1 (by decide +kernel) ?_)
  refine va_sld E.x E.b hX hbl hbA B.2.2 (show ¬ ((1 : Int32) < 0 ∨ 6 ≤ (1 : Int32).toNatClampNeg) by decide +kernel) dL_law_925 (z_topi y1 hy1.symm ?_)
  refine z_calli E B (wc := [zo q_445 9 [.ref q_446, .ref q_447, .ref q_448, .ref q_449, .ref q_450, .ref q_451, .ref q_452, .ref q_453, .ref q_454, .ref q_455, .ref q_456, .ref q_457, .ref q_458, .null, .int 0, .int (-1)], zz G q_452 3 (fun _ => 0)]) (wr := [zo q_446 6 [.ref q_459, .ref q_460, .ref q_461, .ref q_462, .int 0, .int 0, .int 0, .int 0, .int 0, .long 0], zb G q_459 2000 (fun _ => 0), zo q_447 2 [.int 0, .int 0, .int 0, .int 0, .int 0, .int 0], zo q_448 4 [.int 0, .int 0, .ref q_463], zo q_449 0 [.ref q_464, .int 0], zi G q_464 16 (fun _ => 0), zo q_450 0 [.ref q_465, .int 0], zi G q_465 16 (fun _ => 0), zc G q_451 3 (va_up (va_up (va_up (fun _ => none) 0 (some q_468)) 1 (some q_467)) 2 (some q_466)), zo q_453 3 [.ref q_469, .int 0, .int 0], zc G q_469 40 g_483, zo q_470 0 [.ref q_471, .int 0], zi G q_471 16 (fun _ => 0), zo q_454 1 [.ref q_472, .ref q_473, .ref q_474], zi G q_472 64 (fun _ => 0), zo q_473 0 [.ref q_475, .int 0], zi G q_475 384 (fun _ => 0), zo q_474 0 [.ref q_476, .int 0], zo q_455 7 [.ref q_477, .ref q_478, .int 0, .int 0], zi G q_477 16 (fun _ => 0), zo q_456 8 [.int 0, .int 0, .int 0, .int 0, .int 0, .int 0, .ref q_479], zi G q_457 4 zPr, zo q_468 0 [.ref q_480, .int 0], zi G q_480 16 (fun _ => 0), zo q_467 0 [.ref q_481, .int 0], zi G q_481 16 (fun _ => 0), zo q_466 0 [.ref q_482, .int 0], zi G q_482 16 (fun _ => 0), zo q_485 10 (.int 0 :: .ref q_486 :: .int 0 :: .ref q_487 :: .int 0 :: .ref q_488 :: .ref q_489 :: .ref q_490 :: .ref q_491 :: .ref q_492 :: .int 0 :: .int 0 :: .int 0 :: .int 0 :: .int 0 :: .int 0 :: .int (-1) :: .int 0 :: .ref q_493 :: .int 0 :: .int 0 :: .ref q_494 :: .int 0 :: .int 0 :: .ref q_495 :: .int 0 :: .int 0 :: .ref q_496 :: .ref q_497 :: .ref q_498 :: .ref q_499 :: .int 0 :: .int 0 :: .ref q_500 :: .ref q_501 :: .ref q_502 :: .ref q_503 :: .ref q_504 :: .int 0 :: .ref q_505 :: .ref q_506 :: .int 0 :: .int 0 :: .ref q_507 :: .ref q_508 :: .ref q_509 :: .ref q_510 :: .ref q_511 :: .int (-1) :: .ref q_512 :: .ref q_513 :: .ref q_514 :: .ref q_515 :: .ref q_516 :: .ref q_517 :: .ref q_518 :: []), zb G q_486 2000 (fun _ => 0), zi G q_488 403 (fun _ => 0), zi G q_489 403 (fun _ => 0), zi G q_490 403 (fun _ => 0), zj G q_491 403 (fun _ => 0), zi G q_493 4 (upd (upd (upd (upd (fun _ => 0) 0 1) 1 1) 2 5) 3 13), zi G q_494 8 (fun _ => 0), zi G q_495 4 (fun _ => 0), zi G q_496 8 (fun _ => 0), zi G q_497 49 (fun _ => 0), zi G q_498 49 (fun _ => 0), zi G q_499 1960 (fun _ => 0), zi G q_500 147 (fun _ => 0), zz G q_501 3 (fun _ => 0), zi G q_502 64 (fun _ => 0), zi G q_504 49 (fun _ => 0), zi G q_512 40320 (fun _ => 0), zi G q_513 40320 (fun _ => 0), zi G q_514 8 (fun _ => 0), zi G q_515 8 (fun _ => 0), zi G q_517 16 (fun _ => 0)]) [0, 10] [1, 2, 3, 4, 5, 6, 7, 8, 9, 11, 12, 13, 14, 15, 16, 17, 18, 19, 20, 21, 22, 23, 24, 25, 26, 27, 28, 29, 30, 31, 32, 33, 34, 35, 36, 37, 38, 39, 40, 41, 42, 43, 44, 45, 46, 47, 48, 49, 50, 51] rfl rfl (by decide) (by decide) (z_runV E B (As := [.int y1]) (rest := []) [0, 10] rfl (by decide) mv_X11_restore t_956 0 (ci := 9) rfl rfl rfl (c_X11_restore_135 l G _ q_445 q_452 q_446 q_447 q_448 q_449 q_450 q_451 q_453 q_454 q_455 q_456 q_457 q_458 y1) rfl rfl ⟨Nat.le_of_ble_eq_true rfl, Nat.le_of_ble_eq_true rfl⟩ rfl hl.1 rfl (Nat.le_of_ble_eq_true rfl) dL_law_926 ⟨(Nat.le_of_ble_eq_true rfl), (Nat.le_of_ble_eq_true rfl)⟩) (fun r t H locs hp hB J => ?_)
  have B := J _ hB
  have B : zB G A s.heap [zo q_446 6 [.ref q_459, .ref q_460, .ref q_461, .ref q_462, .int 0, .int 0, .int 0, .int 0, .int 0, .long 0], zb G q_459 2000 (fun _ => 0), zo q_447 2 [.int 0, .int 0, .int 0, .int 0, .int 0, .int 0], zo q_448 4 [.int 0, .int 0, .ref q_463], zo q_449 0 [.ref q_464, .int 0], zi G q_464 16 (fun _ => 0), zo q_450 0 [.ref q_465, .int 0], zi G q_465 16 (fun _ => 0), zc G q_451 3 (va_up (va_up (va_up (fun _ => none) 0 (some q_468)) 1 (some q_467)) 2 (some q_466)), zo q_453 3 [.ref q_469, .int 0, .int 0], zc G q_469 40 g_483, zo q_470 0 [.ref q_471, .int 0], zi G q_471 16 (fun _ => 0), zo q_454 1 [.ref q_472, .ref q_473, .ref q_474], zi G q_472 64 (fun _ => 0), zo q_473 0 [.ref q_475, .int 0], zi G q_475 384 (fun _ => 0), zo q_474 0 [.ref q_476, .int 0], zo q_455 7 [.ref q_477, .ref q_478, .int 0, .int 0], zi G q_477 16 (fun _ => 0), zo q_456 8 [.int 0, .int 0, .int 0, .int 0, .int 0, .int 0, .ref q_479], zi G q_457 4 zPr, zo q_468 0 [.ref q_480, .int 0], zi G q_480 16 (fun _ => 0), zo q_467 0 [.ref q_481, .int 0], zi G q_481 16 (fun _ => 0), zo q_466 0 [.ref q_482, .int 0], zi G q_482 16 (fun _ => 0), zo q_485 10 (.int 0 :: .ref q_486 :: .int 0 :: .ref q_487 :: .int 0 :: .ref q_488 :: .ref q_489 :: .ref q_490 :: .ref q_491 :: .ref q_492 :: .int 0 :: .int 0 :: .int 0 :: .int 0 :: .int 0 :: .int 0 :: .int (-1) :: .int 0 :: .ref q_493 :: .int 0 :: .int 0 :: .ref q_494 :: .int 0 :: .int 0 :: .ref q_495 :: .int 0 :: .int 0 :: .ref q_496 :: .ref q_497 :: .ref q_498 :: .ref q_499 :: .int 0 :: .int 0 :: .ref q_500 :: .ref q_501 :: .ref q_502 :: .ref q_503 :: .ref q_504 :: .int 0 :: .ref q_505 :: .ref q_506 :: .int 0 :: .int 0 :: .ref q_507 :: .ref q_508 :: .ref q_509 :: .ref q_510 :: .ref q_511 :: .int (-1) :: .ref q_512 :: .ref q_513 :: .ref q_514 :: .ref q_515 :: .ref q_516 :: .ref q_517 :: .ref q_518 :: []), zb G q_486 2000 (fun _ => 0), zi G q_488 403 (fun _ => 0), zi G q_489 403 (fun _ => 0), zi G q_490 403 (fun _ => 0), zj G q_491 403 (fun _ => 0), zi G q_493 4 (upd (upd (upd (upd (fun _ => 0) 0 1) 1 1) 2 5) 3 13), zi G q_494 8 (fun _ => 0), zi G q_495 4 (fun _ => 0), zi G q_496 8 (fun _ => 0), zi G q_497 49 (fun _ => 0), zi G q_498 49 (fun _ => 0), zi G q_499 1960 (fun _ => 0), zi G q_500 147 (fun _ => 0), zz G q_501 3 (fun _ => 0), zi G q_502 64 (fun _ => 0), zi G q_504 49 (fun _ => 0), zi G q_512 40320 (fun _ => 0), zi G q_513 40320 (fun _ => 0), zi G q_514 8 (fun _ => 0), zi G q_515 8 (fun _ => 0), zi G q_517 16 (fun _ => 0)] _ _ := B
  have hp := hp.symm
  subst hp
  refine lv_aload_n E.x E.b dL_law_929 rfl (lv_at hl 1 rfl) ?_
  refine lv_aload_n E.x E.b dL_law_930 rfl (lv_at hl 3 rfl) ?_
  refine lv_iload_n E.x E.b dL_law_931 rfl (lv_at hl 0 rfl) ?_
  refine lv_iconst (v := 1) E.x E.b dL_law_932 (by decide) ?_
  refine lv_iadd E.x E.b dL_law_933 (z_topi 1 (by decide +kernel) ?_)
  refine va_sld E.x E.b hX hbl hbA B.2.2 (show ¬ ((1 : Int32) < 0 ∨ 6 ≤ (1 : Int32).toNatClampNeg) by decide +kernel) dL_law_934 (z_topi y1 hy1.symm ?_)
  refine z_calli E B (wc := [zo q_485 10 (.int 0 :: .ref q_486 :: .int 0 :: .ref q_487 :: .int 0 :: .ref q_488 :: .ref q_489 :: .ref q_490 :: .ref q_491 :: .ref q_492 :: .int 0 :: .int 0 :: .int 0 :: .int 0 :: .int 0 :: .int 0 :: .int (-1) :: .int 0 :: .ref q_493 :: .int 0 :: .int 0 :: .ref q_494 :: .int 0 :: .int 0 :: .ref q_495 :: .int 0 :: .int 0 :: .ref q_496 :: .ref q_497 :: .ref q_498 :: .ref q_499 :: .int 0 :: .int 0 :: .ref q_500 :: .ref q_501 :: .ref q_502 :: .ref q_503 :: .ref q_504 :: .int 0 :: .ref q_505 :: .ref q_506 :: .int 0 :: .int 0 :: .ref q_507 :: .ref q_508 :: .ref q_509 :: .ref q_510 :: .ref q_511 :: .int (-1) :: .ref q_512 :: .ref q_513 :: .ref q_514 :: .ref q_515 :: .ref q_516 :: .ref q_517 :: .ref q_518 :: []), zz G q_501 3 (fun _ => 0)]) (wr := [zo q_446 6 [.ref q_459, .ref q_460, .ref q_461, .ref q_462, .int 0, .int 0, .int 0, .int 0, .int 0, .long 0], zb G q_459 2000 (fun _ => 0), zo q_447 2 [.int 0, .int 0, .int 0, .int 0, .int 0, .int 0], zo q_448 4 [.int 0, .int 0, .ref q_463], zo q_449 0 [.ref q_464, .int 0], zi G q_464 16 (fun _ => 0), zo q_450 0 [.ref q_465, .int 0], zi G q_465 16 (fun _ => 0), zc G q_451 3 (va_up (va_up (va_up (fun _ => none) 0 (some q_468)) 1 (some q_467)) 2 (some q_466)), zo q_453 3 [.ref q_469, .int 0, .int 0], zc G q_469 40 g_483, zo q_470 0 [.ref q_471, .int 0], zi G q_471 16 (fun _ => 0), zo q_454 1 [.ref q_472, .ref q_473, .ref q_474], zi G q_472 64 (fun _ => 0), zo q_473 0 [.ref q_475, .int 0], zi G q_475 384 (fun _ => 0), zo q_474 0 [.ref q_476, .int 0], zo q_455 7 [.ref q_477, .ref q_478, .int 0, .int 0], zi G q_477 16 (fun _ => 0), zo q_456 8 [.int 0, .int 0, .int 0, .int 0, .int 0, .int 0, .ref q_479], zi G q_457 4 zPr, zo q_468 0 [.ref q_480, .int 0], zi G q_480 16 (fun _ => 0), zo q_467 0 [.ref q_481, .int 0], zi G q_481 16 (fun _ => 0), zo q_466 0 [.ref q_482, .int 0], zi G q_482 16 (fun _ => 0), zb G q_486 2000 (fun _ => 0), zi G q_488 403 (fun _ => 0), zi G q_489 403 (fun _ => 0), zi G q_490 403 (fun _ => 0), zj G q_491 403 (fun _ => 0), zi G q_493 4 (upd (upd (upd (upd (fun _ => 0) 0 1) 1 1) 2 5) 3 13), zi G q_494 8 (fun _ => 0), zi G q_495 4 (fun _ => 0), zi G q_496 8 (fun _ => 0), zi G q_497 49 (fun _ => 0), zi G q_498 49 (fun _ => 0), zi G q_499 1960 (fun _ => 0), zi G q_500 147 (fun _ => 0), zi G q_502 64 (fun _ => 0), zi G q_504 49 (fun _ => 0), zi G q_512 40320 (fun _ => 0), zi G q_513 40320 (fun _ => 0), zi G q_514 8 (fun _ => 0), zi G q_515 8 (fun _ => 0), zi G q_517 16 (fun _ => 0)]) [28, 42] [0, 1, 2, 3, 4, 5, 6, 7, 8, 9, 10, 11, 12, 13, 14, 15, 16, 17, 18, 19, 20, 21, 22, 23, 24, 25, 26, 27, 29, 30, 31, 32, 33, 34, 35, 36, 37, 38, 39, 40, 41, 43, 44, 45, 46, 47, 48, 49] rfl rfl (by decide) (by decide) (z_runV E B (As := [.int y1]) (rest := [.int 0]) [28, 42] rfl (by decide) mv_X12_restore t_1579 0 (ci := 10) rfl rfl rfl (c_X12_restore_224 l G _ q_485 q_501 q_486 q_487 q_488 q_489 q_490 q_491 q_492 q_493 q_494 q_495 q_496 q_497 q_498 q_499 q_500 q_502 q_503 q_504 q_505 q_506 q_507 q_508 q_509 q_510 q_511 q_512 q_513 q_514 q_515 q_516 q_517 q_518 y1) rfl rfl ⟨Nat.le_of_ble_eq_true rfl, Nat.le_of_ble_eq_true rfl⟩ rfl hl.1 rfl (Nat.le_of_ble_eq_true rfl) dL_law_935 ⟨(Nat.le_of_ble_eq_true rfl), (Nat.le_of_ble_eq_true rfl)⟩) (fun r t H locs hp hB J => ?_)
  have B := J _ hB
  have B : zB G A s.heap [zo q_446 6 [.ref q_459, .ref q_460, .ref q_461, .ref q_462, .int 0, .int 0, .int 0, .int 0, .int 0, .long 0], zb G q_459 2000 (fun _ => 0), zo q_447 2 [.int 0, .int 0, .int 0, .int 0, .int 0, .int 0], zo q_448 4 [.int 0, .int 0, .ref q_463], zo q_449 0 [.ref q_464, .int 0], zi G q_464 16 (fun _ => 0), zo q_450 0 [.ref q_465, .int 0], zi G q_465 16 (fun _ => 0), zc G q_451 3 (va_up (va_up (va_up (fun _ => none) 0 (some q_468)) 1 (some q_467)) 2 (some q_466)), zo q_453 3 [.ref q_469, .int 0, .int 0], zc G q_469 40 g_483, zo q_470 0 [.ref q_471, .int 0], zi G q_471 16 (fun _ => 0), zo q_454 1 [.ref q_472, .ref q_473, .ref q_474], zi G q_472 64 (fun _ => 0), zo q_473 0 [.ref q_475, .int 0], zi G q_475 384 (fun _ => 0), zo q_474 0 [.ref q_476, .int 0], zo q_455 7 [.ref q_477, .ref q_478, .int 0, .int 0], zi G q_477 16 (fun _ => 0), zo q_456 8 [.int 0, .int 0, .int 0, .int 0, .int 0, .int 0, .ref q_479], zi G q_457 4 zPr, zo q_468 0 [.ref q_480, .int 0], zi G q_480 16 (fun _ => 0), zo q_467 0 [.ref q_481, .int 0], zi G q_481 16 (fun _ => 0), zo q_466 0 [.ref q_482, .int 0], zi G q_482 16 (fun _ => 0), zb G q_486 2000 (fun _ => 0), zi G q_488 403 (fun _ => 0), zi G q_489 403 (fun _ => 0), zi G q_490 403 (fun _ => 0), zj G q_491 403 (fun _ => 0), zi G q_493 4 (upd (upd (upd (upd (fun _ => 0) 0 1) 1 1) 2 5) 3 13), zi G q_494 8 (fun _ => 0), zi G q_495 4 (fun _ => 0), zi G q_496 8 (fun _ => 0), zi G q_497 49 (fun _ => 0), zi G q_498 49 (fun _ => 0), zi G q_499 1960 (fun _ => 0), zi G q_500 147 (fun _ => 0), zi G q_502 64 (fun _ => 0), zi G q_504 49 (fun _ => 0), zi G q_512 40320 (fun _ => 0), zi G q_513 40320 (fun _ => 0), zi G q_514 8 (fun _ => 0), zi G q_515 8 (fun _ => 0), zi G q_517 16 (fun _ => 0)] _ _ := B
  have hp := hp.symm
  subst hp
  refine lv_icmp_eq (tgt := 966) E.x E.b dL_law_938 (by decide) (fun _ => ?_) (fun c => absurd (by decide +kernel) c)
  refine lv_iinc (v := 6) (lv' := [(3, .int 6), (2, .ref q_485), (1, .ref q_445), (0, .ref b)]) E.x E.b dL_law_966 hl (k := 0) rfl (by decide +kernel) (by decide) rfl (fun ls hl => ?_)
  refine lv_goto (tgt := 18) E.x E.b dL_law_969 (by decide) ?_
  refine lv_iload_n E.x E.b dL_law_18 rfl (lv_at hl 0 rfl) ?_
  refine lv_aload_n E.x E.b dL_law_19 rfl (lv_at hl 3 rfl) ?_
  refine va_slen E.x E.b hX hbl hbA B.2.2 dL_law_20 (z_topi 6 rfl ?_)
  refine lv_bipush (v := 6) E.x E.b dL_law_21 (by decide) ?_
  refine lv_isub E.x E.b dL_law_23 (z_topi 0 (by decide +kernel) ?_)
  refine lv_icmp_gt (tgt := 972) E.x E.b dL_law_24 (by decide) (fun _ => ?_) (fun c => absurd (by decide +kernel) c)
  refine lv_iconst (v := 1) E.x E.b dL_law_972 (by decide) ?_
  refine va_forget (fun q hq => hAe _ (B.2.2.2.2 q hq)) ?_
  refine W.widen (k := 600000) (n := 7302249) (Nat.le_of_ble_eq_true rfl) (Nat.le_of_ble_eq_true rfl) ?_
  exact lw_ret E.x E.b hr hlocks dL_law_973
set_option maxHeartbeats 16000000 in
set_option maxRecDepth 100000 in
theorem law_27 {p : Program} {l : Launch} {e : Env} {s : State} {m : MethodId} {below : List Frame} {meth : Method} {c : Code} {G : zGT} {tp b : Nat} {xs : Nat → Int32} {A : Nat → Prop} (hAe : ∀ q, A q → s.heap.size ≤ q) (E : zE p s m c #[Value.ref b] G RL code 4 A) (hSs : zS G tp A s) (hr : meth.sig.returnType = ret) (hlocks : meth.locks = false) (hbl : b < s.heap.size) (hbA : ¬ A b) (hX : va_X b 6 xs s s.heap) (y0 y1 y2 y3 y4 y5 : Int32) (hy0 : y0 = xs 0) (hy1 : y1 = xs 1) (hy2 : y2 = xs 2) (hy3 : y3 = xs 3) (hy4 : y4 = xs 4) (hy5 : y5 = xs 5) (q_445 q_446 q_447 q_448 q_449 q_450 q_451 q_452 q_453 q_454 q_455 q_456 q_457 q_458 q_459 q_460 q_461 q_462 q_463 q_464 q_465 q_466 q_467 q_468 q_469 q_470 q_471 q_472 q_473 q_474 q_475 q_476 q_477 q_478 q_479 q_480 q_481 q_482 q_485 q_486 q_487 q_488 q_489 q_490 q_491 q_492 q_493 q_494 q_495 q_496 q_497 q_498 q_499 q_500 q_501 q_502 q_503 q_504 q_505 q_506 q_507 q_508 q_509 q_510 q_511 q_512 q_513 q_514 q_515 q_516 q_517 q_518 : Nat) (g_483 : Nat → Option Nat) (hf_484 : g_483 0 = some q_470) {H : Heap} {locs : List Loc} {ls : Array Slot} (B : zB G A s.heap [zo q_445 9 [.ref q_446, .ref q_447, .ref q_448, .ref q_449, .ref q_450, .ref q_451, .ref q_452, .ref q_453, .ref q_454, .ref q_455, .ref q_456, .ref q_457, .ref q_458, .null, .int 0, .int (-1)], zo q_446 6 [.ref q_459, .ref q_460, .ref q_461, .ref q_462, .int 0, .int 0, .int 0, .int 0, .int 0, .long 0], zb G q_459 2000 (fun _ => 0), zo q_447 2 [.int 0, .int 0, .int 0, .int 0, .int 0, .int 0], zo q_448 4 [.int 0, .int 0, .ref q_463], zo q_449 0 [.ref q_464, .int 0], zi G q_464 16 (fun _ => 0), zo q_450 0 [.ref q_465, .int 0], zi G q_465 16 (fun _ => 0), zc G q_451 3 (va_up (va_up (va_up (fun _ => none) 0 (some q_468)) 1 (some q_467)) 2 (some q_466)), zz G q_452 3 (fun _ => 0), zo q_453 3 [.ref q_469, .int 0, .int 0], zc G q_469 40 g_483, zo q_470 0 [.ref q_471, .int 0], zi G q_471 16 (fun _ => 0), zo q_454 1 [.ref q_472, .ref q_473, .ref q_474], zi G q_472 64 (fun _ => 0), zo q_473 0 [.ref q_475, .int 0], zi G q_475 384 (fun _ => 0), zo q_474 0 [.ref q_476, .int 0], zo q_455 7 [.ref q_477, .ref q_478, .int 0, .int 0], zi G q_477 16 (fun _ => 0), zo q_456 8 [.int 0, .int 0, .int 0, .int 0, .int 0, .int 0, .ref q_479], zi G q_457 4 zPr, zo q_468 0 [.ref q_480, .int 0], zi G q_480 16 (fun _ => 0), zo q_467 0 [.ref q_481, .int 0], zi G q_481 16 (fun _ => 0), zo q_466 0 [.ref q_482, .int 0], zi G q_482 16 (fun _ => 0), zo q_485 10 (.int 0 :: .ref q_486 :: .int 0 :: .ref q_487 :: .int 0 :: .ref q_488 :: .ref q_489 :: .ref q_490 :: .ref q_491 :: .ref q_492 :: .int 0 :: .int 0 :: .int 0 :: .int 0 :: .int 0 :: .int 0 :: .int (-1) :: .int 0 :: .ref q_493 :: .int 0 :: .int 0 :: .ref q_494 :: .int 0 :: .int 0 :: .ref q_495 :: .int 0 :: .int 0 :: .ref q_496 :: .ref q_497 :: .ref q_498 :: .ref q_499 :: .int 0 :: .int 0 :: .ref q_500 :: .ref q_501 :: .ref q_502 :: .ref q_503 :: .ref q_504 :: .int 0 :: .ref q_505 :: .ref q_506 :: .int 0 :: .int 0 :: .ref q_507 :: .ref q_508 :: .ref q_509 :: .ref q_510 :: .ref q_511 :: .int (-1) :: .ref q_512 :: .ref q_513 :: .ref q_514 :: .ref q_515 :: .ref q_516 :: .ref q_517 :: .ref q_518 :: []), zb G q_486 2000 (fun _ => 0), zi G q_488 403 (fun _ => 0), zi G q_489 403 (fun _ => 0), zi G q_490 403 (fun _ => 0), zj G q_491 403 (fun _ => 0), zi G q_493 4 (upd (upd (upd (upd (fun _ => 0) 0 1) 1 1) 2 5) 3 13), zi G q_494 8 (fun _ => 0), zi G q_495 4 (fun _ => 0), zi G q_496 8 (fun _ => 0), zi G q_497 49 (fun _ => 0), zi G q_498 49 (fun _ => 0), zi G q_499 1960 (fun _ => 0), zi G q_500 147 (fun _ => 0), zz G q_501 3 (fun _ => 0), zi G q_502 64 (fun _ => 0), zi G q_504 49 (fun _ => 0), zi G q_512 40320 (fun _ => 0), zi G q_513 40320 (fun _ => 0), zi G q_514 8 (fun _ => 0), zi G q_515 8 (fun _ => 0), zi G q_517 16 (fun _ => 0)] H locs) (hl : lv_has ls 4 [(3, .int 0), (2, .ref q_485), (1, .ref q_445), (0, .ref b)]) : W p l e room_1 s m #[Value.ref b] below meth c H locs 150 97037 (lw_Z below #[Value.ref b] s) (F0 m 943 ls []) := by
  refine lv_aload_n E.x E.b dL_law_943 rfl (lv_at hl 2 rfl) ?_
  refine lv_aload_n E.x E.b dL_law_944 rfl (lv_at hl 3 rfl) ?_
  refine lv_iload_n E.x E.b dL_law_945 rfl (lv_at hl 0 rfl) ?_
  refine lv_iconst (v := 1) E.x E.b dL_law_946 (by decide) ?_
  refine lv_iadd E.x E.b dL_law_947 (z_topi 1 (by decide +kernel) ?_)
  refine va_sld E.x E.b hX hbl hbA B.2.2 (show ¬ ((1 : Int32) < 0 ∨ 6 ≤ (1 : Int32).toNatClampNeg) by decide +kernel) dL_law_948 (z_topi y1 hy1.symm ?_)
  refine z_calli E B (wc := [zo q_445 9 [.ref q_446, .ref q_447, .ref q_448, .ref q_449, .ref q_450, .ref q_451, .ref q_452, .ref q_453, .ref q_454, .ref q_455, .ref q_456, .ref q_457, .ref q_458, .null, .int 0, .int (-1)], zo q_449 0 [.ref q_464, .int 0], zo q_446 6 [.ref q_459, .ref q_460, .ref q_461, .ref q_462, .int 0, .int 0, .int 0, .int 0, .int 0, .long 0], zo q_453 3 [.ref q_469, .int 0, .int 0], zz G q_452 3 (fun _ => 0), zi G q_457 4 zPr, zo q_455 7 [.ref q_477, .ref q_478, .int 0, .int 0], zi G q_477 16 (fun _ => 0)]) (wr := [zb G q_459 2000 (fun _ => 0), zo q_447 2 [.int 0, .int 0, .int 0, .int 0, .int 0, .int 0], zo q_448 4 [.int 0, .int 0, .ref q_463], zi G q_464 16 (fun _ => 0), zo q_450 0 [.ref q_465, .int 0], zi G q_465 16 (fun _ => 0), zc G q_451 3 (va_up (va_up (va_up (fun _ => none) 0 (some q_468)) 1 (some q_467)) 2 (some q_466)), zc G q_469 40 g_483, zo q_470 0 [.ref q_471, .int 0], zi G q_471 16 (fun _ => 0), zo q_454 1 [.ref q_472, .ref q_473, .ref q_474], zi G q_472 64 (fun _ => 0), zo q_473 0 [.ref q_475, .int 0], zi G q_475 384 (fun _ => 0), zo q_474 0 [.ref q_476, .int 0], zo q_456 8 [.int 0, .int 0, .int 0, .int 0, .int 0, .int 0, .ref q_479], zo q_468 0 [.ref q_480, .int 0], zi G q_480 16 (fun _ => 0), zo q_467 0 [.ref q_481, .int 0], zi G q_481 16 (fun _ => 0), zo q_466 0 [.ref q_482, .int 0], zi G q_482 16 (fun _ => 0), zo q_485 10 (.int 0 :: .ref q_486 :: .int 0 :: .ref q_487 :: .int 0 :: .ref q_488 :: .ref q_489 :: .ref q_490 :: .ref q_491 :: .ref q_492 :: .int 0 :: .int 0 :: .int 0 :: .int 0 :: .int 0 :: .int 0 :: .int (-1) :: .int 0 :: .ref q_493 :: .int 0 :: .int 0 :: .ref q_494 :: .int 0 :: .int 0 :: .ref q_495 :: .int 0 :: .int 0 :: .ref q_496 :: .ref q_497 :: .ref q_498 :: .ref q_499 :: .int 0 :: .int 0 :: .ref q_500 :: .ref q_501 :: .ref q_502 :: .ref q_503 :: .ref q_504 :: .int 0 :: .ref q_505 :: .ref q_506 :: .int 0 :: .int 0 :: .ref q_507 :: .ref q_508 :: .ref q_509 :: .ref q_510 :: .ref q_511 :: .int (-1) :: .ref q_512 :: .ref q_513 :: .ref q_514 :: .ref q_515 :: .ref q_516 :: .ref q_517 :: .ref q_518 :: []), zb G q_486 2000 (fun _ => 0), zi G q_488 403 (fun _ => 0), zi G q_489 403 (fun _ => 0), zi G q_490 403 (fun _ => 0), zj G q_491 403 (fun _ => 0), zi G q_493 4 (upd (upd (upd (upd (fun _ => 0) 0 1) 1 1) 2 5) 3 13), zi G q_494 8 (fun _ => 0), zi G q_495 4 (fun _ => 0), zi G q_496 8 (fun _ => 0), zi G q_497 49 (fun _ => 0), zi G q_498 49 (fun _ => 0), zi G q_499 1960 (fun _ => 0), zi G q_500 147 (fun _ => 0), zz G q_501 3 (fun _ => 0), zi G q_502 64 (fun _ => 0), zi G q_504 49 (fun _ => 0), zi G q_512 40320 (fun _ => 0), zi G q_513 40320 (fun _ => 0), zi G q_514 8 (fun _ => 0), zi G q_515 8 (fun _ => 0), zi G q_517 16 (fun _ => 0)]) [0, 5, 1, 11, 10, 23, 20, 21] [2, 3, 4, 6, 7, 8, 9, 12, 13, 14, 15, 16, 17, 18, 19, 22, 24, 25, 26, 27, 28, 29, 30, 31, 32, 33, 34, 35, 36, 37, 38, 39, 40, 41, 42, 43, 44, 45, 46, 47, 48, 49, 50, 51] rfl rfl (by decide) (by decide) (z_runV E B (As := [.int y1]) (rest := []) [0, 5, 1, 11, 10, 23, 20, 21] rfl (by decide) mv_X11_count t_1139 0 (ci := 9) rfl rfl rfl (c_X11_count_145 l G _ q_445 q_449 q_446 q_453 q_452 q_457 q_455 q_477 q_447 q_448 q_450 q_451 q_454 q_456 q_458 q_464 q_459 q_460 q_461 q_462 q_469 q_478 y1) rfl rfl ⟨Nat.le_of_ble_eq_true rfl, Nat.le_of_ble_eq_true rfl⟩ rfl hl.1 rfl (Nat.le_of_ble_eq_true rfl) dL_law_949 ⟨(Nat.le_of_ble_eq_true rfl), (Nat.le_of_ble_eq_true rfl)⟩) (fun r t H locs hp hB J => ?_)
  have B := J _ hB
  have B : zB G A s.heap [zb G q_459 2000 (fun _ => 0), zo q_447 2 [.int 0, .int 0, .int 0, .int 0, .int 0, .int 0], zo q_448 4 [.int 0, .int 0, .ref q_463], zi G q_464 16 (fun _ => 0), zo q_450 0 [.ref q_465, .int 0], zi G q_465 16 (fun _ => 0), zc G q_451 3 (va_up (va_up (va_up (fun _ => none) 0 (some q_468)) 1 (some q_467)) 2 (some q_466)), zc G q_469 40 g_483, zo q_470 0 [.ref q_471, .int 0], zi G q_471 16 (fun _ => 0), zo q_454 1 [.ref q_472, .ref q_473, .ref q_474], zi G q_472 64 (fun _ => 0), zo q_473 0 [.ref q_475, .int 0], zi G q_475 384 (fun _ => 0), zo q_474 0 [.ref q_476, .int 0], zo q_456 8 [.int 0, .int 0, .int 0, .int 0, .int 0, .int 0, .ref q_479], zo q_468 0 [.ref q_480, .int 0], zi G q_480 16 (fun _ => 0), zo q_467 0 [.ref q_481, .int 0], zi G q_481 16 (fun _ => 0), zo q_466 0 [.ref q_482, .int 0], zi G q_482 16 (fun _ => 0), zo q_485 10 (.int 0 :: .ref q_486 :: .int 0 :: .ref q_487 :: .int 0 :: .ref q_488 :: .ref q_489 :: .ref q_490 :: .ref q_491 :: .ref q_492 :: .int 0 :: .int 0 :: .int 0 :: .int 0 :: .int 0 :: .int 0 :: .int (-1) :: .int 0 :: .ref q_493 :: .int 0 :: .int 0 :: .ref q_494 :: .int 0 :: .int 0 :: .ref q_495 :: .int 0 :: .int 0 :: .ref q_496 :: .ref q_497 :: .ref q_498 :: .ref q_499 :: .int 0 :: .int 0 :: .ref q_500 :: .ref q_501 :: .ref q_502 :: .ref q_503 :: .ref q_504 :: .int 0 :: .ref q_505 :: .ref q_506 :: .int 0 :: .int 0 :: .ref q_507 :: .ref q_508 :: .ref q_509 :: .ref q_510 :: .ref q_511 :: .int (-1) :: .ref q_512 :: .ref q_513 :: .ref q_514 :: .ref q_515 :: .ref q_516 :: .ref q_517 :: .ref q_518 :: []), zb G q_486 2000 (fun _ => 0), zi G q_488 403 (fun _ => 0), zi G q_489 403 (fun _ => 0), zi G q_490 403 (fun _ => 0), zj G q_491 403 (fun _ => 0), zi G q_493 4 (upd (upd (upd (upd (fun _ => 0) 0 1) 1 1) 2 5) 3 13), zi G q_494 8 (fun _ => 0), zi G q_495 4 (fun _ => 0), zi G q_496 8 (fun _ => 0), zi G q_497 49 (fun _ => 0), zi G q_498 49 (fun _ => 0), zi G q_499 1960 (fun _ => 0), zi G q_500 147 (fun _ => 0), zz G q_501 3 (fun _ => 0), zi G q_502 64 (fun _ => 0), zi G q_504 49 (fun _ => 0), zi G q_512 40320 (fun _ => 0), zi G q_513 40320 (fun _ => 0), zi G q_514 8 (fun _ => 0), zi G q_515 8 (fun _ => 0), zi G q_517 16 (fun _ => 0)] _ _ := B
  rcases hp with ⟨c_548, rfl⟩ | ⟨c_549, rfl⟩ | ⟨c_550, rfl⟩ | ⟨c_551, rfl⟩ | ⟨c_552, rfl⟩ | ⟨c_553, rfl⟩ | ⟨c_554, rfl⟩ | ⟨c_555, rfl⟩ | ⟨c_556, rfl⟩ | ⟨c_557, rfl⟩ | ⟨c_558, rfl⟩ | ⟨c_559, rfl⟩ | ⟨c_560, rfl⟩ | ⟨c_561, rfl⟩ | ⟨c_562, rfl⟩ | ⟨c_563, rfl⟩ | ⟨c_564, rfl⟩ | ⟨c_565, c_566, c_567, c_568, c_569, c_570, c_571, c_572, c_573, c_574, c_575, c_576, c_577, c_578, c_579, c_580, c_581, rfl⟩
  · skip
    refine lv_aload_n E.x E.b dL_law_952 rfl (lv_at hl 1 rfl) ?_
    refine lv_aload_n E.x E.b dL_law_953 rfl (lv_at hl 3 rfl) ?_
    refine lv_iload_n E.x E.b dL_law_954 rfl (lv_at hl 0 rfl) ?_
    refine lv_iconst (v := 1) E.x E.b dL_law_955 (by decide) ?_
    refine lv_iadd E.x E.b dL_law_956 (z_topi 1 (by decide +kernel) ?_)
    refine va_sld E.x E.b hX hbl hbA B.2.2 (show ¬ ((1 : Int32) < 0 ∨ 6 ≤ (1 : Int32).toNatClampNeg) by decide +kernel) dL_law_957 (z_topi y1 hy1.symm ?_)
    refine z_calli E B (wc := [zo q_485 10 (.int 0 :: .ref q_486 :: .int 0 :: .ref q_487 :: .int 0 :: .ref q_488 :: .ref q_489 :: .ref q_490 :: .ref q_491 :: .ref q_492 :: .int 0 :: .int 0 :: .int 0 :: .int 0 :: .int 0 :: .int 0 :: .int (-1) :: .int 0 :: .ref q_493 :: .int 0 :: .int 0 :: .ref q_494 :: .int 0 :: .int 0 :: .ref q_495 :: .int 0 :: .int 0 :: .ref q_496 :: .ref q_497 :: .ref q_498 :: .ref q_499 :: .int 0 :: .int 0 :: .ref q_500 :: .ref q_501 :: .ref q_502 :: .ref q_503 :: .ref q_504 :: .int 0 :: .ref q_505 :: .ref q_506 :: .int 0 :: .int 0 :: .ref q_507 :: .ref q_508 :: .ref q_509 :: .ref q_510 :: .ref q_511 :: .int (-1) :: .ref q_512 :: .ref q_513 :: .ref q_514 :: .ref q_515 :: .ref q_516 :: .ref q_517 :: .ref q_518 :: []), zi G q_497 49 (fun _ => 0), zz G q_501 3 (fun _ => 0), zi G q_493 4 (upd (upd (upd (upd (fun _ => 0) 0 1) 1 1) 2 5) 3 13)]) (wr := [zb G q_459 2000 (fun _ => 0), zo q_447 2 [.int 0, .int 0, .int 0, .int 0, .int 0, .int 0], zo q_448 4 [.int 0, .int 0, .ref q_463], zi G q_464 16 (fun _ => 0), zo q_450 0 [.ref q_465, .int 0], zi G q_465 16 (fun _ => 0), zc G q_451 3 (va_up (va_up (va_up (fun _ => none) 0 (some q_468)) 1 (some q_467)) 2 (some q_466)), zc G q_469 40 g_483, zo q_470 0 [.ref q_471, .int 0], zi G q_471 16 (fun _ => 0), zo q_454 1 [.ref q_472, .ref q_473, .ref q_474], zi G q_472 64 (fun _ => 0), zo q_473 0 [.ref q_475, .int 0], zi G q_475 384 (fun _ => 0), zo q_474 0 [.ref q_476, .int 0], zo q_456 8 [.int 0, .int 0, .int 0, .int 0, .int 0, .int 0, .ref q_479], zo q_468 0 [.ref q_480, .int 0], zi G q_480 16 (fun _ => 0), zo q_467 0 [.ref q_481, .int 0], zi G q_481 16 (fun _ => 0), zo q_466 0 [.ref q_482, .int 0], zi G q_482 16 (fun _ => 0), zb G q_486 2000 (fun _ => 0), zi G q_488 403 (fun _ => 0), zi G q_489 403 (fun _ => 0), zi G q_490 403 (fun _ => 0), zj G q_491 403 (fun _ => 0), zi G q_494 8 (fun _ => 0), zi G q_495 4 (fun _ => 0), zi G q_496 8 (fun _ => 0), zi G q_498 49 (fun _ => 0), zi G q_499 1960 (fun _ => 0), zi G q_500 147 (fun _ => 0), zi G q_502 64 (fun _ => 0), zi G q_504 49 (fun _ => 0), zi G q_512 40320 (fun _ => 0), zi G q_513 40320 (fun _ => 0), zi G q_514 8 (fun _ => 0), zi G q_515 8 (fun _ => 0), zi G q_517 16 (fun _ => 0)]) [22, 32, 36, 28] [0, 1, 2, 3, 4, 5, 6, 7, 8, 9, 10, 11, 12, 13, 14, 15, 16, 17, 18, 19, 20, 21, 23, 24, 25, 26, 27, 29, 30, 31, 33, 34, 35, 37, 38, 39, 40, 41, 42, 43] rfl rfl (by decide) (by decide) (z_runV E B (As := [.int y1]) (rest := [.int 0]) [22, 32, 36, 28] rfl (by decide) mv_X12_count t_1724 0 (ci := 10) rfl rfl rfl (c_X12_count_232 l G _ q_485 q_497 q_501 q_493 q_486 q_487 q_488 q_489 q_490 q_491 q_492 q_494 q_495 q_496 q_498 q_499 q_500 q_502 q_503 q_504 q_505 q_506 q_507 q_508 q_509 q_510 q_511 q_512 q_513 q_514 q_515 q_516 q_517 q_518 y1) rfl rfl ⟨Nat.le_of_ble_eq_true rfl, Nat.le_of_ble_eq_true rfl⟩ rfl hl.1 rfl (Nat.le_of_ble_eq_true rfl) dL_law_958 ⟨(Nat.le_of_ble_eq_true rfl), (Nat.le_of_ble_eq_true rfl)⟩) (fun r t H locs hp hB J => ?_)
    have B := J _ hB
    have B : zB G A s.heap [zb G q_459 2000 (fun _ => 0), zo q_447 2 [.int 0, .int 0, .int 0, .int 0, .int 0, .int 0], zo q_448 4 [.int 0, .int 0, .ref q_463], zi G q_464 16 (fun _ => 0), zo q_450 0 [.ref q_465, .int 0], zi G q_465 16 (fun _ => 0), zc G q_451 3 (va_up (va_up (va_up (fun _ => none) 0 (some q_468)) 1 (some q_467)) 2 (some q_466)), zc G q_469 40 g_483, zo q_470 0 [.ref q_471, .int 0], zi G q_471 16 (fun _ => 0), zo q_454 1 [.ref q_472, .ref q_473, .ref q_474], zi G q_472 64 (fun _ => 0), zo q_473 0 [.ref q_475, .int 0], zi G q_475 384 (fun _ => 0), zo q_474 0 [.ref q_476, .int 0], zo q_456 8 [.int 0, .int 0, .int 0, .int 0, .int 0, .int 0, .ref q_479], zo q_468 0 [.ref q_480, .int 0], zi G q_480 16 (fun _ => 0), zo q_467 0 [.ref q_481, .int 0], zi G q_481 16 (fun _ => 0), zo q_466 0 [.ref q_482, .int 0], zi G q_482 16 (fun _ => 0), zb G q_486 2000 (fun _ => 0), zi G q_488 403 (fun _ => 0), zi G q_489 403 (fun _ => 0), zi G q_490 403 (fun _ => 0), zj G q_491 403 (fun _ => 0), zi G q_494 8 (fun _ => 0), zi G q_495 4 (fun _ => 0), zi G q_496 8 (fun _ => 0), zi G q_498 49 (fun _ => 0), zi G q_499 1960 (fun _ => 0), zi G q_500 147 (fun _ => 0), zi G q_502 64 (fun _ => 0), zi G q_504 49 (fun _ => 0), zi G q_512 40320 (fun _ => 0), zi G q_513 40320 (fun _ => 0), zi G q_514 8 (fun _ => 0), zi G q_515 8 (fun _ => 0), zi G q_517 16 (fun _ => 0)] _ _ := B
    rcases hp with ⟨c_582, rfl⟩ | ⟨c_583, rfl⟩ | ⟨c_584, rfl⟩ | ⟨c_585, rfl⟩ | ⟨c_586, rfl⟩ | ⟨c_587, rfl⟩ | ⟨c_588, rfl⟩ | ⟨c_589, rfl⟩ | ⟨c_590, rfl⟩ | ⟨c_591, rfl⟩ | ⟨c_592, rfl⟩ | ⟨c_593, rfl⟩ | ⟨c_594, rfl⟩ | ⟨c_595, rfl⟩ | ⟨c_596, rfl⟩ | ⟨c_597, rfl⟩ | ⟨c_598, rfl⟩ | ⟨c_599, rfl⟩ | ⟨c_600, rfl⟩
    · skip
      refine lv_icmp_eq (tgt := 966) E.x E.b dL_law_961 (by decide) (fun _ => ?_) (fun c => absurd (by decide +kernel) c)
      refine lv_iinc (v := 6) (lv' := [(3, .int 6), (2, .ref q_485), (1, .ref q_445), (0, .ref b)]) E.x E.b dL_law_966 hl (k := 0) rfl (by decide +kernel) (by decide) rfl (fun ls hl => ?_)
      refine lv_goto (tgt := 18) E.x E.b dL_law_969 (by decide) ?_
      refine lv_iload_n E.x E.b dL_law_18 rfl (lv_at hl 0 rfl) ?_
      refine lv_aload_n E.x E.b dL_law_19 rfl (lv_at hl 3 rfl) ?_
      refine va_slen E.x E.b hX hbl hbA B.2.2 dL_law_20 (z_topi 6 rfl ?_)
      refine lv_bipush (v := 6) E.x E.b dL_law_21 (by decide) ?_
      refine lv_isub E.x E.b dL_law_23 (z_topi 0 (by decide +kernel) ?_)
      refine lv_icmp_gt (tgt := 972) E.x E.b dL_law_24 (by decide) (fun _ => ?_) (fun c => absurd (by decide +kernel) c)
      refine lv_iconst (v := 1) E.x E.b dL_law_972 (by decide) ?_
      refine va_forget (fun q hq => hAe _ (B.2.2.2.2 q hq)) ?_
      refine W.widen (k := 600000) (n := 7302249) (Nat.le_of_ble_eq_true rfl) (Nat.le_of_ble_eq_true rfl) ?_
      exact lw_ret E.x E.b hr hlocks dL_law_973
    · exfalso; omega
    · exfalso; omega
    · exfalso; omega
    · exfalso; omega
    · exfalso; omega
    · exfalso; omega
    · exfalso; omega
    · exfalso; omega
    · exfalso; omega
    · exfalso; omega
    · exfalso; omega
    · exfalso; omega
    · exfalso; omega
    · exfalso; omega
    · exfalso; omega
    · exfalso; omega
    · exfalso; omega
    · exfalso; omega
  · skip
    refine lv_aload_n E.x E.b dL_law_952 rfl (lv_at hl 1 rfl) ?_
    refine lv_aload_n E.x E.b dL_law_953 rfl (lv_at hl 3 rfl) ?_
    refine lv_iload_n E.x E.b dL_law_954 rfl (lv_at hl 0 rfl) ?_
    refine lv_iconst (v := 1) E.x E.b dL_law_955 (by decide) ?_
    refine lv_iadd E.x E.b dL_law_956 (z_topi 1 (by decide +kernel) ?_)
    refine va_sld E.x E.b hX hbl hbA B.2.2 (show ¬ ((1 : Int32) < 0 ∨ 6 ≤ (1 : Int32).toNatClampNeg) by decide +kernel) dL_law_957 (z_topi y1 hy1.symm ?_)
    refine z_calli E B (wc := [zo q_485 10 (.int 0 :: .ref q_486 :: .int 0 :: .ref q_487 :: .int 0 :: .ref q_488 :: .ref q_489 :: .ref q_490 :: .ref q_491 :: .ref q_492 :: .int 0 :: .int 0 :: .int 0 :: .int 0 :: .int 0 :: .int 0 :: .int (-1) :: .int 0 :: .ref q_493 :: .int 0 :: .int 0 :: .ref q_494 :: .int 0 :: .int 0 :: .ref q_495 :: .int 0 :: .int 0 :: .ref q_496 :: .ref q_497 :: .ref q_498 :: .ref q_499 :: .int 0 :: .int 0 :: .ref q_500 :: .ref q_501 :: .ref q_502 :: .ref q_503 :: .ref q_504 :: .int 0 :: .ref q_505 :: .ref q_506 :: .int 0 :: .int 0 :: .ref q_507 :: .ref q_508 :: .ref q_509 :: .ref q_510 :: .ref q_511 :: .int (-1) :: .ref q_512 :: .ref q_513 :: .ref q_514 :: .ref q_515 :: .ref q_516 :: .ref q_517 :: .ref q_518 :: []), zi G q_497 49 (fun _ => 0), zz G q_501 3 (fun _ => 0), zi G q_493 4 (upd (upd (upd (upd (fun _ => 0) 0 1) 1 1) 2 5) 3 13)]) (wr := [zb G q_459 2000 (fun _ => 0), zo q_447 2 [.int 0, .int 0, .int 0, .int 0, .int 0, .int 0], zo q_448 4 [.int 0, .int 0, .ref q_463], zi G q_464 16 (fun _ => 0), zo q_450 0 [.ref q_465, .int 0], zi G q_465 16 (fun _ => 0), zc G q_451 3 (va_up (va_up (va_up (fun _ => none) 0 (some q_468)) 1 (some q_467)) 2 (some q_466)), zc G q_469 40 g_483, zo q_470 0 [.ref q_471, .int 0], zi G q_471 16 (fun _ => 0), zo q_454 1 [.ref q_472, .ref q_473, .ref q_474], zi G q_472 64 (fun _ => 0), zo q_473 0 [.ref q_475, .int 0], zi G q_475 384 (fun _ => 0), zo q_474 0 [.ref q_476, .int 0], zo q_456 8 [.int 0, .int 0, .int 0, .int 0, .int 0, .int 0, .ref q_479], zo q_468 0 [.ref q_480, .int 0], zi G q_480 16 (fun _ => 0), zo q_467 0 [.ref q_481, .int 0], zi G q_481 16 (fun _ => 0), zo q_466 0 [.ref q_482, .int 0], zi G q_482 16 (fun _ => 0), zb G q_486 2000 (fun _ => 0), zi G q_488 403 (fun _ => 0), zi G q_489 403 (fun _ => 0), zi G q_490 403 (fun _ => 0), zj G q_491 403 (fun _ => 0), zi G q_494 8 (fun _ => 0), zi G q_495 4 (fun _ => 0), zi G q_496 8 (fun _ => 0), zi G q_498 49 (fun _ => 0), zi G q_499 1960 (fun _ => 0), zi G q_500 147 (fun _ => 0), zi G q_502 64 (fun _ => 0), zi G q_504 49 (fun _ => 0), zi G q_512 40320 (fun _ => 0), zi G q_513 40320 (fun _ => 0), zi G q_514 8 (fun _ => 0), zi G q_515 8 (fun _ => 0), zi G q_517 16 (fun _ => 0)]) [22, 32, 36, 28] [0, 1, 2, 3, 4, 5, 6, 7, 8, 9, 10, 11, 12, 13, 14, 15, 16, 17, 18, 19, 20, 21, 23, 24, 25, 26, 27, 29, 30, 31, 33, 34, 35, 37, 38, 39, 40, 41, 42, 43] rfl rfl (by decide) (by decide) (z_runV E B (As := [.int y1]) (rest := [.int 0]) [22, 32, 36, 28] rfl (by decide) mv_X12_count t_1724 0 (ci := 10) rfl rfl rfl (c_X12_count_232 l G _ q_485 q_497 q_501 q_493 q_486 q_487 q_488 q_489 q_490 q_491 q_492 q_494 q_495 q_496 q_498 q_499 q_500 q_502 q_503 q_504 q_505 q_506 q_507 q_508 q_509 q_510 q_511 q_512 q_513 q_514 q_515 q_516 q_517 q_518 y1) rfl rfl ⟨Nat.le_of_ble_eq_true rfl, Nat.le_of_ble_eq_true rfl⟩ rfl hl.1 rfl (Nat.le_of_ble_eq_true rfl) dL_law_958 ⟨(Nat.le_of_ble_eq_true rfl), (Nat.le_of_ble_eq_true rfl)⟩) (fun r t H locs hp hB J => ?_)
    have B := J _ hB
    have B : zB G A s.heap [zb G q_459 2000 (fun _ => 0), zo q_447 2 [.int 0, .int 0, .int 0, .int 0, .int 0, .int 0], zo q_448 4 [.int 0, .int 0, .ref q_463], zi G q_464 16 (fun _ => 0), zo q_450 0 [.ref q_465, .int 0], zi G q_465 16 (fun _ => 0), zc G q_451 3 (va_up (va_up (va_up (fun _ => none) 0 (some q_468)) 1 (some q_467)) 2 (some q_466)), zc G q_469 40 g_483, zo q_470 0 [.ref q_471, .int 0], zi G q_471 16 (fun _ => 0), zo q_454 1 [.ref q_472, .ref q_473, .ref q_474], zi G q_472 64 (fun _ => 0), zo q_473 0 [.ref q_475, .int 0], zi G q_475 384 (fun _ => 0), zo q_474 0 [.ref q_476, .int 0], zo q_456 8 [.int 0, .int 0, .int 0, .int 0, .int 0, .int 0, .ref q_479], zo q_468 0 [.ref q_480, .int 0], zi G q_480 16 (fun _ => 0), zo q_467 0 [.ref q_481, .int 0], zi G q_481 16 (fun _ => 0), zo q_466 0 [.ref q_482, .int 0], zi G q_482 16 (fun _ => 0), zb G q_486 2000 (fun _ => 0), zi G q_488 403 (fun _ => 0), zi G q_489 403 (fun _ => 0), zi G q_490 403 (fun _ => 0), zj G q_491 403 (fun _ => 0), zi G q_494 8 (fun _ => 0), zi G q_495 4 (fun _ => 0), zi G q_496 8 (fun _ => 0), zi G q_498 49 (fun _ => 0), zi G q_499 1960 (fun _ => 0), zi G q_500 147 (fun _ => 0), zi G q_502 64 (fun _ => 0), zi G q_504 49 (fun _ => 0), zi G q_512 40320 (fun _ => 0), zi G q_513 40320 (fun _ => 0), zi G q_514 8 (fun _ => 0), zi G q_515 8 (fun _ => 0), zi G q_517 16 (fun _ => 0)] _ _ := B
    rcases hp with ⟨c_601, rfl⟩ | ⟨c_602, rfl⟩ | ⟨c_603, rfl⟩ | ⟨c_604, rfl⟩ | ⟨c_605, rfl⟩ | ⟨c_606, rfl⟩ | ⟨c_607, rfl⟩ | ⟨c_608, rfl⟩ | ⟨c_609, rfl⟩ | ⟨c_610, rfl⟩ | ⟨c_611, rfl⟩ | ⟨c_612, rfl⟩ | ⟨c_613, rfl⟩ | ⟨c_614, rfl⟩ | ⟨c_615, rfl⟩ | ⟨c_616, rfl⟩ | ⟨c_617, rfl⟩ | ⟨c_618, rfl⟩ | ⟨c_619, rfl⟩
    · exfalso; omega
    · skip
      refine lv_icmp_eq (tgt := 966) E.x E.b dL_law_961 (by decide) (fun _ => ?_) (fun c => absurd (by decide +kernel) c)
      refine lv_iinc (v := 6) (lv' := [(3, .int 6), (2, .ref q_485), (1, .ref q_445), (0, .ref b)]) E.x E.b dL_law_966 hl (k := 0) rfl (by decide +kernel) (by decide) rfl (fun ls hl => ?_)
      refine lv_goto (tgt := 18) E.x E.b dL_law_969 (by decide) ?_
      refine lv_iload_n E.x E.b dL_law_18 rfl (lv_at hl 0 rfl) ?_
      refine lv_aload_n E.x E.b dL_law_19 rfl (lv_at hl 3 rfl) ?_
      refine va_slen E.x E.b hX hbl hbA B.2.2 dL_law_20 (z_topi 6 rfl ?_)
      refine lv_bipush (v := 6) E.x E.b dL_law_21 (by decide) ?_
      refine lv_isub E.x E.b dL_law_23 (z_topi 0 (by decide +kernel) ?_)
      refine lv_icmp_gt (tgt := 972) E.x E.b dL_law_24 (by decide) (fun _ => ?_) (fun c => absurd (by decide +kernel) c)
      refine lv_iconst (v := 1) E.x E.b dL_law_972 (by decide) ?_
      refine va_forget (fun q hq => hAe _ (B.2.2.2.2 q hq)) ?_
      refine W.widen (k := 600000) (n := 7302249) (Nat.le_of_ble_eq_true rfl) (Nat.le_of_ble_eq_true rfl) ?_
      exact lw_ret E.x E.b hr hlocks dL_law_973
    · exfalso; omega
    · exfalso; omega
    · exfalso; omega
    · exfalso; omega
    · exfalso; omega
    · exfalso; omega
    · exfalso; omega
    · exfalso; omega
    · exfalso; omega
    · exfalso; omega
    · exfalso; omega
    · exfalso; omega
    · exfalso; omega
    · exfalso; omega
    · exfalso; omega
    · exfalso; omega
    · exfalso; omega
  · skip
    refine lv_aload_n E.x E.b dL_law_952 rfl (lv_at hl 1 rfl) ?_
    refine lv_aload_n E.x E.b dL_law_953 rfl (lv_at hl 3 rfl) ?_
    refine lv_iload_n E.x E.b dL_law_954 rfl (lv_at hl 0 rfl) ?_
    refine lv_iconst (v := 1) E.x E.b dL_law_955 (by decide) ?_
    refine lv_iadd E.x E.b dL_law_956 (z_topi 1 (by decide +kernel) ?_)
    refine va_sld E.x E.b hX hbl hbA B.2.2 (show ¬ ((1 : Int32) < 0 ∨ 6 ≤ (1 : Int32).toNatClampNeg) by decide +kernel) dL_law_957 (z_topi y1 hy1.symm ?_)
    refine z_calli E B (wc := [zo q_485 10 (.int 0 :: .ref q_486 :: .int 0 :: .ref q_487 :: .int 0 :: .ref q_488 :: .ref q_489 :: .ref q_490 :: .ref q_491 :: .ref q_492 :: .int 0 :: .int 0 :: .int 0 :: .int 0 :: .int 0 :: .int 0 :: .int (-1) :: .int 0 :: .ref q_493 :: .int 0 :: .int 0 :: .ref q_494 :: .int 0 :: .int 0 :: .ref q_495 :: .int 0 :: .int 0 :: .ref q_496 :: .ref q_497 :: .ref q_498 :: .ref q_499 :: .int 0 :: .int 0 :: .ref q_500 :: .ref q_501 :: .ref q_502 :: .ref q_503 :: .ref q_504 :: .int 0 :: .ref q_505 :: .ref q_506 :: .int 0 :: .int 0 :: .ref q_507 :: .ref q_508 :: .ref q_509 :: .ref q_510 :: .ref q_511 :: .int (-1) :: .ref q_512 :: .ref q_513 :: .ref q_514 :: .ref q_515 :: .ref q_516 :: .ref q_517 :: .ref q_518 :: []), zi G q_497 49 (fun _ => 0), zz G q_501 3 (fun _ => 0), zi G q_493 4 (upd (upd (upd (upd (fun _ => 0) 0 1) 1 1) 2 5) 3 13)]) (wr := [zb G q_459 2000 (fun _ => 0), zo q_447 2 [.int 0, .int 0, .int 0, .int 0, .int 0, .int 0], zo q_448 4 [.int 0, .int 0, .ref q_463], zi G q_464 16 (fun _ => 0), zo q_450 0 [.ref q_465, .int 0], zi G q_465 16 (fun _ => 0), zc G q_451 3 (va_up (va_up (va_up (fun _ => none) 0 (some q_468)) 1 (some q_467)) 2 (some q_466)), zc G q_469 40 g_483, zo q_470 0 [.ref q_471, .int 0], zi G q_471 16 (fun _ => 0), zo q_454 1 [.ref q_472, .ref q_473, .ref q_474], zi G q_472 64 (fun _ => 0), zo q_473 0 [.ref q_475, .int 0], zi G q_475 384 (fun _ => 0), zo q_474 0 [.ref q_476, .int 0], zo q_456 8 [.int 0, .int 0, .int 0, .int 0, .int 0, .int 0, .ref q_479], zo q_468 0 [.ref q_480, .int 0], zi G q_480 16 (fun _ => 0), zo q_467 0 [.ref q_481, .int 0], zi G q_481 16 (fun _ => 0), zo q_466 0 [.ref q_482, .int 0], zi G q_482 16 (fun _ => 0), zb G q_486 2000 (fun _ => 0), zi G q_488 403 (fun _ => 0), zi G q_489 403 (fun _ => 0), zi G q_490 403 (fun _ => 0), zj G q_491 403 (fun _ => 0), zi G q_494 8 (fun _ => 0), zi G q_495 4 (fun _ => 0), zi G q_496 8 (fun _ => 0), zi G q_498 49 (fun _ => 0), zi G q_499 1960 (fun _ => 0), zi G q_500 147 (fun _ => 0), zi G q_502 64 (fun _ => 0), zi G q_504 49 (fun _ => 0), zi G q_512 40320 (fun _ => 0), zi G q_513 40320 (fun _ => 0), zi G q_514 8 (fun _ => 0), zi G q_515 8 (fun _ => 0), zi G q_517 16 (fun _ => 0)]) [22, 32, 36, 28] [0, 1, 2, 3, 4, 5, 6, 7, 8, 9, 10, 11, 12, 13, 14, 15, 16, 17, 18, 19, 20, 21, 23, 24, 25, 26, 27, 29, 30, 31, 33, 34, 35, 37, 38, 39, 40, 41, 42, 43] rfl rfl (by decide) (by decide) (z_runV E B (As := [.int y1]) (rest := [.int 0]) [22, 32, 36, 28] rfl (by decide) mv_X12_count t_1724 0 (ci := 10) rfl rfl rfl (c_X12_count_232 l G _ q_485 q_497 q_501 q_493 q_486 q_487 q_488 q_489 q_490 q_491 q_492 q_494 q_495 q_496 q_498 q_499 q_500 q_502 q_503 q_504 q_505 q_506 q_507 q_508 q_509 q_510 q_511 q_512 q_513 q_514 q_515 q_516 q_517 q_518 y1) rfl rfl ⟨Nat.le_of_ble_eq_true rfl, Nat.le_of_ble_eq_true rfl⟩ rfl hl.1 rfl (Nat.le_of_ble_eq_true rfl) dL_law_958 ⟨(Nat.le_of_ble_eq_true rfl), (Nat.le_of_ble_eq_true rfl)⟩) (fun r t H locs hp hB J => ?_)
    have B := J _ hB
    have B : zB G A s.heap [zb G q_459 2000 (fun _ => 0), zo q_447 2 [.int 0, .int 0, .int 0, .int 0, .int 0, .int 0], zo q_448 4 [.int 0, .int 0, .ref q_463], zi G q_464 16 (fun _ => 0), zo q_450 0 [.ref q_465, .int 0], zi G q_465 16 (fun _ => 0), zc G q_451 3 (va_up (va_up (va_up (fun _ => none) 0 (some q_468)) 1 (some q_467)) 2 (some q_466)), zc G q_469 40 g_483, zo q_470 0 [.ref q_471, .int 0], zi G q_471 16 (fun _ => 0), zo q_454 1 [.ref q_472, .ref q_473, .ref q_474], zi G q_472 64 (fun _ => 0), zo q_473 0 [.ref q_475, .int 0], zi G q_475 384 (fun _ => 0), zo q_474 0 [.ref q_476, .int 0], zo q_456 8 [.int 0, .int 0, .int 0, .int 0, .int 0, .int 0, .ref q_479], zo q_468 0 [.ref q_480, .int 0], zi G q_480 16 (fun _ => 0), zo q_467 0 [.ref q_481, .int 0], zi G q_481 16 (fun _ => 0), zo q_466 0 [.ref q_482, .int 0], zi G q_482 16 (fun _ => 0), zb G q_486 2000 (fun _ => 0), zi G q_488 403 (fun _ => 0), zi G q_489 403 (fun _ => 0), zi G q_490 403 (fun _ => 0), zj G q_491 403 (fun _ => 0), zi G q_494 8 (fun _ => 0), zi G q_495 4 (fun _ => 0), zi G q_496 8 (fun _ => 0), zi G q_498 49 (fun _ => 0), zi G q_499 1960 (fun _ => 0), zi G q_500 147 (fun _ => 0), zi G q_502 64 (fun _ => 0), zi G q_504 49 (fun _ => 0), zi G q_512 40320 (fun _ => 0), zi G q_513 40320 (fun _ => 0), zi G q_514 8 (fun _ => 0), zi G q_515 8 (fun _ => 0), zi G q_517 16 (fun _ => 0)] _ _ := B
    rcases hp with ⟨c_620, rfl⟩ | ⟨c_621, rfl⟩ | ⟨c_622, rfl⟩ | ⟨c_623, rfl⟩ | ⟨c_624, rfl⟩ | ⟨c_625, rfl⟩ | ⟨c_626, rfl⟩ | ⟨c_627, rfl⟩ | ⟨c_628, rfl⟩ | ⟨c_629, rfl⟩ | ⟨c_630, rfl⟩ | ⟨c_631, rfl⟩ | ⟨c_632, rfl⟩ | ⟨c_633, rfl⟩ | ⟨c_634, rfl⟩ | ⟨c_635, rfl⟩ | ⟨c_636, rfl⟩ | ⟨c_637, rfl⟩ | ⟨c_638, rfl⟩
    · exfalso; omega
    · exfalso; omega
    · skip
      refine lv_icmp_eq (tgt := 966) E.x E.b dL_law_961 (by decide) (fun _ => ?_) (fun c => absurd (by decide +kernel) c)
      refine lv_iinc (v := 6) (lv' := [(3, .int 6), (2, .ref q_485), (1, .ref q_445), (0, .ref b)]) E.x E.b dL_law_966 hl (k := 0) rfl (by decide +kernel) (by decide) rfl (fun ls hl => ?_)
      refine lv_goto (tgt := 18) E.x E.b dL_law_969 (by decide) ?_
      refine lv_iload_n E.x E.b dL_law_18 rfl (lv_at hl 0 rfl) ?_
      refine lv_aload_n E.x E.b dL_law_19 rfl (lv_at hl 3 rfl) ?_
      refine va_slen E.x E.b hX hbl hbA B.2.2 dL_law_20 (z_topi 6 rfl ?_)
      refine lv_bipush (v := 6) E.x E.b dL_law_21 (by decide) ?_
      refine lv_isub E.x E.b dL_law_23 (z_topi 0 (by decide +kernel) ?_)
      refine lv_icmp_gt (tgt := 972) E.x E.b dL_law_24 (by decide) (fun _ => ?_) (fun c => absurd (by decide +kernel) c)
      refine lv_iconst (v := 1) E.x E.b dL_law_972 (by decide) ?_
      refine va_forget (fun q hq => hAe _ (B.2.2.2.2 q hq)) ?_
      refine W.widen (k := 600000) (n := 7302249) (Nat.le_of_ble_eq_true rfl) (Nat.le_of_ble_eq_true rfl) ?_
      exact lw_ret E.x E.b hr hlocks dL_law_973
    · exfalso; omega
    · exfalso; omega
    · exfalso; omega
    · exfalso; omega
    · exfalso; omega
    · exfalso; omega
    · exfalso; omega
    · exfalso; omega
    · exfalso; omega
    · exfalso; omega
    · exfalso; omega
    · exfalso; omega
    · exfalso; omega
    · exfalso; omega
    · exfalso; omega
    · exfalso; omega
  · skip
    refine lv_aload_n E.x E.b dL_law_952 rfl (lv_at hl 1 rfl) ?_
    refine lv_aload_n E.x E.b dL_law_953 rfl (lv_at hl 3 rfl) ?_
    refine lv_iload_n E.x E.b dL_law_954 rfl (lv_at hl 0 rfl) ?_
    refine lv_iconst (v := 1) E.x E.b dL_law_955 (by decide) ?_
    refine lv_iadd E.x E.b dL_law_956 (z_topi 1 (by decide +kernel) ?_)
    refine va_sld E.x E.b hX hbl hbA B.2.2 (show ¬ ((1 : Int32) < 0 ∨ 6 ≤ (1 : Int32).toNatClampNeg) by decide +kernel) dL_law_957 (z_topi y1 hy1.symm ?_)
    refine z_calli E B (wc := [zo q_485 10 (.int 0 :: .ref q_486 :: .int 0 :: .ref q_487 :: .int 0 :: .ref q_488 :: .ref q_489 :: .ref q_490 :: .ref q_491 :: .ref q_492 :: .int 0 :: .int 0 :: .int 0 :: .int 0 :: .int 0 :: .int 0 :: .int (-1) :: .int 0 :: .ref q_493 :: .int 0 :: .int 0 :: .ref q_494 :: .int 0 :: .int 0 :: .ref q_495 :: .int 0 :: .int 0 :: .ref q_496 :: .ref q_497 :: .ref q_498 :: .ref q_499 :: .int 0 :: .int 0 :: .ref q_500 :: .ref q_501 :: .ref q_502 :: .ref q_503 :: .ref q_504 :: .int 0 :: .ref q_505 :: .ref q_506 :: .int 0 :: .int 0 :: .ref q_507 :: .ref q_508 :: .ref q_509 :: .ref q_510 :: .ref q_511 :: .int (-1) :: .ref q_512 :: .ref q_513 :: .ref q_514 :: .ref q_515 :: .ref q_516 :: .ref q_517 :: .ref q_518 :: []), zi G q_497 49 (fun _ => 0), zz G q_501 3 (fun _ => 0), zi G q_493 4 (upd (upd (upd (upd (fun _ => 0) 0 1) 1 1) 2 5) 3 13)]) (wr := [zb G q_459 2000 (fun _ => 0), zo q_447 2 [.int 0, .int 0, .int 0, .int 0, .int 0, .int 0], zo q_448 4 [.int 0, .int 0, .ref q_463], zi G q_464 16 (fun _ => 0), zo q_450 0 [.ref q_465, .int 0], zi G q_465 16 (fun _ => 0), zc G q_451 3 (va_up (va_up (va_up (fun _ => none) 0 (some q_468)) 1 (some q_467)) 2 (some q_466)), zc G q_469 40 g_483, zo q_470 0 [.ref q_471, .int 0], zi G q_471 16 (fun _ => 0), zo q_454 1 [.ref q_472, .ref q_473, .ref q_474], zi G q_472 64 (fun _ => 0), zo q_473 0 [.ref q_475, .int 0], zi G q_475 384 (fun _ => 0), zo q_474 0 [.ref q_476, .int 0], zo q_456 8 [.int 0, .int 0, .int 0, .int 0, .int 0, .int 0, .ref q_479], zo q_468 0 [.ref q_480, .int 0], zi G q_480 16 (fun _ => 0), zo q_467 0 [.ref q_481, .int 0], zi G q_481 16 (fun _ => 0), zo q_466 0 [.ref q_482, .int 0], zi G q_482 16 (fun _ => 0), zb G q_486 2000 (fun _ => 0), zi G q_488 403 (fun _ => 0), zi G q_489 403 (fun _ => 0), zi G q_490 403 (fun _ => 0), zj G q_491 403 (fun _ => 0), zi G q_494 8 (fun _ => 0), zi G q_495 4 (fun _ => 0), zi G q_496 8 (fun _ => 0), zi G q_498 49 (fun _ => 0), zi G q_499 1960 (fun _ => 0), zi G q_500 147 (fun _ => 0), zi G q_502 64 (fun _ => 0), zi G q_504 49 (fun _ => 0), zi G q_512 40320 (fun _ => 0), zi G q_513 40320 (fun _ => 0), zi G q_514 8 (fun _ => 0), zi G q_515 8 (fun _ => 0), zi G q_517 16 (fun _ => 0)]) [22, 32, 36, 28] [0, 1, 2, 3, 4, 5, 6, 7, 8, 9, 10, 11, 12, 13, 14, 15, 16, 17, 18, 19, 20, 21, 23, 24, 25, 26, 27, 29, 30, 31, 33, 34, 35, 37, 38, 39, 40, 41, 42, 43] rfl rfl (by decide) (by decide) (z_runV E B (As := [.int y1]) (rest := [.int 0]) [22, 32, 36, 28] rfl (by decide) mv_X12_count t_1724 0 (ci := 10) rfl rfl rfl (c_X12_count_232 l G _ q_485 q_497 q_501 q_493 q_486 q_487 q_488 q_489 q_490 q_491 q_492 q_494 q_495 q_496 q_498 q_499 q_500 q_502 q_503 q_504 q_505 q_506 q_507 q_508 q_509 q_510 q_511 q_512 q_513 q_514 q_515 q_516 q_517 q_518 y1) rfl rfl ⟨Nat.le_of_ble_eq_true rfl, Nat.le_of_ble_eq_true rfl⟩ rfl hl.1 rfl (Nat.le_of_ble_eq_true rfl) dL_law_958 ⟨(Nat.le_of_ble_eq_true rfl), (Nat.le_of_ble_eq_true rfl)⟩) (fun r t H locs hp hB J => ?_)
    have B := J _ hB
    have B : zB G A s.heap [zb G q_459 2000 (fun _ => 0), zo q_447 2 [.int 0, .int 0, .int 0, .int 0, .int 0, .int 0], zo q_448 4 [.int 0, .int 0, .ref q_463], zi G q_464 16 (fun _ => 0), zo q_450 0 [.ref q_465, .int 0], zi G q_465 16 (fun _ => 0), zc G q_451 3 (va_up (va_up (va_up (fun _ => none) 0 (some q_468)) 1 (some q_467)) 2 (some q_466)), zc G q_469 40 g_483, zo q_470 0 [.ref q_471, .int 0], zi G q_471 16 (fun _ => 0), zo q_454 1 [.ref q_472, .ref q_473, .ref q_474], zi G q_472 64 (fun _ => 0), zo q_473 0 [.ref q_475, .int 0], zi G q_475 384 (fun _ => 0), zo q_474 0 [.ref q_476, .int 0], zo q_456 8 [.int 0, .int 0, .int 0, .int 0, .int 0, .int 0, .ref q_479], zo q_468 0 [.ref q_480, .int 0], zi G q_480 16 (fun _ => 0), zo q_467 0 [.ref q_481, .int 0], zi G q_481 16 (fun _ => 0), zo q_466 0 [.ref q_482, .int 0], zi G q_482 16 (fun _ => 0), zb G q_486 2000 (fun _ => 0), zi G q_488 403 (fun _ => 0), zi G q_489 403 (fun _ => 0), zi G q_490 403 (fun _ => 0), zj G q_491 403 (fun _ => 0), zi G q_494 8 (fun _ => 0), zi G q_495 4 (fun _ => 0), zi G q_496 8 (fun _ => 0), zi G q_498 49 (fun _ => 0), zi G q_499 1960 (fun _ => 0), zi G q_500 147 (fun _ => 0), zi G q_502 64 (fun _ => 0), zi G q_504 49 (fun _ => 0), zi G q_512 40320 (fun _ => 0), zi G q_513 40320 (fun _ => 0), zi G q_514 8 (fun _ => 0), zi G q_515 8 (fun _ => 0), zi G q_517 16 (fun _ => 0)] _ _ := B
    rcases hp with ⟨c_639, rfl⟩ | ⟨c_640, rfl⟩ | ⟨c_641, rfl⟩ | ⟨c_642, rfl⟩ | ⟨c_643, rfl⟩ | ⟨c_644, rfl⟩ | ⟨c_645, rfl⟩ | ⟨c_646, rfl⟩ | ⟨c_647, rfl⟩ | ⟨c_648, rfl⟩ | ⟨c_649, rfl⟩ | ⟨c_650, rfl⟩ | ⟨c_651, rfl⟩ | ⟨c_652, rfl⟩ | ⟨c_653, rfl⟩ | ⟨c_654, rfl⟩ | ⟨c_655, rfl⟩ | ⟨c_656, rfl⟩ | ⟨c_657, rfl⟩
    · exfalso; omega
    · exfalso; omega
    · exfalso; omega
    · skip
      refine lv_icmp_eq (tgt := 966) E.x E.b dL_law_961 (by decide) (fun _ => ?_) (fun c => absurd (by decide +kernel) c)
      refine lv_iinc (v := 6) (lv' := [(3, .int 6), (2, .ref q_485), (1, .ref q_445), (0, .ref b)]) E.x E.b dL_law_966 hl (k := 0) rfl (by decide +kernel) (by decide) rfl (fun ls hl => ?_)
      refine lv_goto (tgt := 18) E.x E.b dL_law_969 (by decide) ?_
      refine lv_iload_n E.x E.b dL_law_18 rfl (lv_at hl 0 rfl) ?_
      refine lv_aload_n E.x E.b dL_law_19 rfl (lv_at hl 3 rfl) ?_
      refine va_slen E.x E.b hX hbl hbA B.2.2 dL_law_20 (z_topi 6 rfl ?_)
      refine lv_bipush (v := 6) E.x E.b dL_law_21 (by decide) ?_
      refine lv_isub E.x E.b dL_law_23 (z_topi 0 (by decide +kernel) ?_)
      refine lv_icmp_gt (tgt := 972) E.x E.b dL_law_24 (by decide) (fun _ => ?_) (fun c => absurd (by decide +kernel) c)
      refine lv_iconst (v := 1) E.x E.b dL_law_972 (by decide) ?_
      refine va_forget (fun q hq => hAe _ (B.2.2.2.2 q hq)) ?_
      refine W.widen (k := 600000) (n := 7302249) (Nat.le_of_ble_eq_true rfl) (Nat.le_of_ble_eq_true rfl) ?_
      exact lw_ret E.x E.b hr hlocks dL_law_973
    · exfalso; omega
    · exfalso; omega
    · exfalso; omega
    · exfalso; omega
    · exfalso; omega
    · exfalso; omega
    · exfalso; omega
    · exfalso; omega
    · exfalso; omega
    · exfalso; omega
    · exfalso; omega
    · exfalso; omega
    · exfalso; omega
    · exfalso; omega
    · exfalso; omega
  · skip
    refine lv_aload_n E.x E.b dL_law_952 rfl (lv_at hl 1 rfl) ?_
    refine lv_aload_n E.x E.b dL_law_953 rfl (lv_at hl 3 rfl) ?_
    refine lv_iload_n E.x E.b dL_law_954 rfl (lv_at hl 0 rfl) ?_
    refine lv_iconst (v := 1) E.x E.b dL_law_955 (by decide) ?_
    refine lv_iadd E.x E.b dL_law_956 (z_topi 1 (by decide +kernel) ?_)
    refine va_sld E.x E.b hX hbl hbA B.2.2 (show ¬ ((1 : Int32) < 0 ∨ 6 ≤ (1 : Int32).toNatClampNeg) by decide +kernel) dL_law_957 (z_topi y1 hy1.symm ?_)
    refine z_calli E B (wc := [zo q_485 10 (.int 0 :: .ref q_486 :: .int 0 :: .ref q_487 :: .int 0 :: .ref q_488 :: .ref q_489 :: .ref q_490 :: .ref q_491 :: .ref q_492 :: .int 0 :: .int 0 :: .int 0 :: .int 0 :: .int 0 :: .int 0 :: .int (-1) :: .int 0 :: .ref q_493 :: .int 0 :: .int 0 :: .ref q_494 :: .int 0 :: .int 0 :: .ref q_495 :: .int 0 :: .int 0 :: .ref q_496 :: .ref q_497 :: .ref q_498 :: .ref q_499 :: .int 0 :: .int 0 :: .ref q_500 :: .ref q_501 :: .ref q_502 :: .ref q_503 :: .ref q_504 :: .int 0 :: .ref q_505 :: .ref q_506 :: .int 0 :: .int 0 :: .ref q_507 :: .ref q_508 :: .ref q_509 :: .ref q_510 :: .ref q_511 :: .int (-1) :: .ref q_512 :: .ref q_513 :: .ref q_514 :: .ref q_515 :: .ref q_516 :: .ref q_517 :: .ref q_518 :: []), zi G q_497 49 (fun _ => 0), zz G q_501 3 (fun _ => 0), zi G q_493 4 (upd (upd (upd (upd (fun _ => 0) 0 1) 1 1) 2 5) 3 13)]) (wr := [zb G q_459 2000 (fun _ => 0), zo q_447 2 [.int 0, .int 0, .int 0, .int 0, .int 0, .int 0], zo q_448 4 [.int 0, .int 0, .ref q_463], zi G q_464 16 (fun _ => 0), zo q_450 0 [.ref q_465, .int 0], zi G q_465 16 (fun _ => 0), zc G q_451 3 (va_up (va_up (va_up (fun _ => none) 0 (some q_468)) 1 (some q_467)) 2 (some q_466)), zc G q_469 40 g_483, zo q_470 0 [.ref q_471, .int 0], zi G q_471 16 (fun _ => 0), zo q_454 1 [.ref q_472, .ref q_473, .ref q_474], zi G q_472 64 (fun _ => 0), zo q_473 0 [.ref q_475, .int 0], zi G q_475 384 (fun _ => 0), zo q_474 0 [.ref q_476, .int 0], zo q_456 8 [.int 0, .int 0, .int 0, .int 0, .int 0, .int 0, .ref q_479], zo q_468 0 [.ref q_480, .int 0], zi G q_480 16 (fun _ => 0), zo q_467 0 [.ref q_481, .int 0], zi G q_481 16 (fun _ => 0), zo q_466 0 [.ref q_482, .int 0], zi G q_482 16 (fun _ => 0), zb G q_486 2000 (fun _ => 0), zi G q_488 403 (fun _ => 0), zi G q_489 403 (fun _ => 0), zi G q_490 403 (fun _ => 0), zj G q_491 403 (fun _ => 0), zi G q_494 8 (fun _ => 0), zi G q_495 4 (fun _ => 0), zi G q_496 8 (fun _ => 0), zi G q_498 49 (fun _ => 0), zi G q_499 1960 (fun _ => 0), zi G q_500 147 (fun _ => 0), zi G q_502 64 (fun _ => 0), zi G q_504 49 (fun _ => 0), zi G q_512 40320 (fun _ => 0), zi G q_513 40320 (fun _ => 0), zi G q_514 8 (fun _ => 0), zi G q_515 8 (fun _ => 0), zi G q_517 16 (fun _ => 0)]) [22, 32, 36, 28] [0, 1, 2, 3, 4, 5, 6, 7, 8, 9, 10, 11, 12, 13, 14, 15, 16, 17, 18, 19, 20, 21, 23, 24, 25, 26, 27, 29, 30, 31, 33, 34, 35, 37, 38, 39, 40, 41, 42, 43] rfl rfl (by decide) (by decide) (z_runV E B (As := [.int y1]) (rest := [.int 0]) [22, 32, 36, 28] rfl (by decide) mv_X12_count t_1724 0 (ci := 10) rfl rfl rfl (c_X12_count_232 l G _ q_485 q_497 q_501 q_493 q_486 q_487 q_488 q_489 q_490 q_491 q_492 q_494 q_495 q_496 q_498 q_499 q_500 q_502 q_503 q_504 q_505 q_506 q_507 q_508 q_509 q_510 q_511 q_512 q_513 q_514 q_515 q_516 q_517 q_518 y1) rfl rfl ⟨Nat.le_of_ble_eq_true rfl, Nat.le_of_ble_eq_true rfl⟩ rfl hl.1 rfl (Nat.le_of_ble_eq_true rfl) dL_law_958 ⟨(Nat.le_of_ble_eq_true rfl), (Nat.le_of_ble_eq_true rfl)⟩) (fun r t H locs hp hB J => ?_)
    have B := J _ hB
    have B : zB G A s.heap [zb G q_459 2000 (fun _ => 0), zo q_447 2 [.int 0, .int 0, .int 0, .int 0, .int 0, .int 0], zo q_448 4 [.int 0, .int 0, .ref q_463], zi G q_464 16 (fun _ => 0), zo q_450 0 [.ref q_465, .int 0], zi G q_465 16 (fun _ => 0), zc G q_451 3 (va_up (va_up (va_up (fun _ => none) 0 (some q_468)) 1 (some q_467)) 2 (some q_466)), zc G q_469 40 g_483, zo q_470 0 [.ref q_471, .int 0], zi G q_471 16 (fun _ => 0), zo q_454 1 [.ref q_472, .ref q_473, .ref q_474], zi G q_472 64 (fun _ => 0), zo q_473 0 [.ref q_475, .int 0], zi G q_475 384 (fun _ => 0), zo q_474 0 [.ref q_476, .int 0], zo q_456 8 [.int 0, .int 0, .int 0, .int 0, .int 0, .int 0, .ref q_479], zo q_468 0 [.ref q_480, .int 0], zi G q_480 16 (fun _ => 0), zo q_467 0 [.ref q_481, .int 0], zi G q_481 16 (fun _ => 0), zo q_466 0 [.ref q_482, .int 0], zi G q_482 16 (fun _ => 0), zb G q_486 2000 (fun _ => 0), zi G q_488 403 (fun _ => 0), zi G q_489 403 (fun _ => 0), zi G q_490 403 (fun _ => 0), zj G q_491 403 (fun _ => 0), zi G q_494 8 (fun _ => 0), zi G q_495 4 (fun _ => 0), zi G q_496 8 (fun _ => 0), zi G q_498 49 (fun _ => 0), zi G q_499 1960 (fun _ => 0), zi G q_500 147 (fun _ => 0), zi G q_502 64 (fun _ => 0), zi G q_504 49 (fun _ => 0), zi G q_512 40320 (fun _ => 0), zi G q_513 40320 (fun _ => 0), zi G q_514 8 (fun _ => 0), zi G q_515 8 (fun _ => 0), zi G q_517 16 (fun _ => 0)] _ _ := B
    rcases hp with ⟨c_658, rfl⟩ | ⟨c_659, rfl⟩ | ⟨c_660, rfl⟩ | ⟨c_661, rfl⟩ | ⟨c_662, rfl⟩ | ⟨c_663, rfl⟩ | ⟨c_664, rfl⟩ | ⟨c_665, rfl⟩ | ⟨c_666, rfl⟩ | ⟨c_667, rfl⟩ | ⟨c_668, rfl⟩ | ⟨c_669, rfl⟩ | ⟨c_670, rfl⟩ | ⟨c_671, rfl⟩ | ⟨c_672, rfl⟩ | ⟨c_673, rfl⟩ | ⟨c_674, rfl⟩ | ⟨c_675, rfl⟩ | ⟨c_676, rfl⟩
    · exfalso; omega
    · exfalso; omega
    · exfalso; omega
    · exfalso; omega
    · skip
      refine lv_icmp_eq (tgt := 966) E.x E.b dL_law_961 (by decide) (fun _ => ?_) (fun c => absurd (by decide +kernel) c)
      refine lv_iinc (v := 6) (lv' := [(3, .int 6), (2, .ref q_485), (1, .ref q_445), (0, .ref b)]) E.x E.b dL_law_966 hl (k := 0) rfl (by decide +kernel) (by decide) rfl (fun ls hl => ?_)
      refine lv_goto (tgt := 18) E.x E.b dL_law_969 (by decide) ?_
      refine lv_iload_n E.x E.b dL_law_18 rfl (lv_at hl 0 rfl) ?_
      refine lv_aload_n E.x E.b dL_law_19 rfl (lv_at hl 3 rfl) ?_
      refine va_slen E.x E.b hX hbl hbA B.2.2 dL_law_20 (z_topi 6 rfl ?_)
      refine lv_bipush (v := 6) E.x E.b dL_law_21 (by decide) ?_
      refine lv_isub E.x E.b dL_law_23 (z_topi 0 (by decide +kernel) ?_)
      refine lv_icmp_gt (tgt := 972) E.x E.b dL_law_24 (by decide) (fun _ => ?_) (fun c => absurd (by decide +kernel) c)
      refine lv_iconst (v := 1) E.x E.b dL_law_972 (by decide) ?_
      refine va_forget (fun q hq => hAe _ (B.2.2.2.2 q hq)) ?_
      refine W.widen (k := 600000) (n := 7302249) (Nat.le_of_ble_eq_true rfl) (Nat.le_of_ble_eq_true rfl) ?_
      exact lw_ret E.x E.b hr hlocks dL_law_973
    · exfalso; omega
    · exfalso; omega
    · exfalso; omega
    · exfalso; omega
    · exfalso; omega
    · exfalso; omega
    · exfalso; omega
    · exfalso; omega
    · exfalso; omega
    · exfalso; omega
    · exfalso; omega
    · exfalso; omega
    · exfalso; omega
    · exfalso; omega
  · skip
    refine lv_aload_n E.x E.b dL_law_952 rfl (lv_at hl 1 rfl) ?_
    refine lv_aload_n E.x E.b dL_law_953 rfl (lv_at hl 3 rfl) ?_
    refine lv_iload_n E.x E.b dL_law_954 rfl (lv_at hl 0 rfl) ?_
    refine lv_iconst (v := 1) E.x E.b dL_law_955 (by decide) ?_
    refine lv_iadd E.x E.b dL_law_956 (z_topi 1 (by decide +kernel) ?_)
    refine va_sld E.x E.b hX hbl hbA B.2.2 (show ¬ ((1 : Int32) < 0 ∨ 6 ≤ (1 : Int32).toNatClampNeg) by decide +kernel) dL_law_957 (z_topi y1 hy1.symm ?_)
    refine z_calli E B (wc := [zo q_485 10 (.int 0 :: .ref q_486 :: .int 0 :: .ref q_487 :: .int 0 :: .ref q_488 :: .ref q_489 :: .ref q_490 :: .ref q_491 :: .ref q_492 :: .int 0 :: .int 0 :: .int 0 :: .int 0 :: .int 0 :: .int 0 :: .int (-1) :: .int 0 :: .ref q_493 :: .int 0 :: .int 0 :: .ref q_494 :: .int 0 :: .int 0 :: .ref q_495 :: .int 0 :: .int 0 :: .ref q_496 :: .ref q_497 :: .ref q_498 :: .ref q_499 :: .int 0 :: .int 0 :: .ref q_500 :: .ref q_501 :: .ref q_502 :: .ref q_503 :: .ref q_504 :: .int 0 :: .ref q_505 :: .ref q_506 :: .int 0 :: .int 0 :: .ref q_507 :: .ref q_508 :: .ref q_509 :: .ref q_510 :: .ref q_511 :: .int (-1) :: .ref q_512 :: .ref q_513 :: .ref q_514 :: .ref q_515 :: .ref q_516 :: .ref q_517 :: .ref q_518 :: []), zi G q_497 49 (fun _ => 0), zz G q_501 3 (fun _ => 0), zi G q_493 4 (upd (upd (upd (upd (fun _ => 0) 0 1) 1 1) 2 5) 3 13)]) (wr := [zb G q_459 2000 (fun _ => 0), zo q_447 2 [.int 0, .int 0, .int 0, .int 0, .int 0, .int 0], zo q_448 4 [.int 0, .int 0, .ref q_463], zi G q_464 16 (fun _ => 0), zo q_450 0 [.ref q_465, .int 0], zi G q_465 16 (fun _ => 0), zc G q_451 3 (va_up (va_up (va_up (fun _ => none) 0 (some q_468)) 1 (some q_467)) 2 (some q_466)), zc G q_469 40 g_483, zo q_470 0 [.ref q_471, .int 0], zi G q_471 16 (fun _ => 0), zo q_454 1 [.ref q_472, .ref q_473, .ref q_474], zi G q_472 64 (fun _ => 0), zo q_473 0 [.ref q_475, .int 0], zi G q_475 384 (fun _ => 0), zo q_474 0 [.ref q_476, .int 0], zo q_456 8 [.int 0, .int 0, .int 0, .int 0, .int 0, .int 0, .ref q_479], zo q_468 0 [.ref q_480, .int 0], zi G q_480 16 (fun _ => 0), zo q_467 0 [.ref q_481, .int 0], zi G q_481 16 (fun _ => 0), zo q_466 0 [.ref q_482, .int 0], zi G q_482 16 (fun _ => 0), zb G q_486 2000 (fun _ => 0), zi G q_488 403 (fun _ => 0), zi G q_489 403 (fun _ => 0), zi G q_490 403 (fun _ => 0), zj G q_491 403 (fun _ => 0), zi G q_494 8 (fun _ => 0), zi G q_495 4 (fun _ => 0), zi G q_496 8 (fun _ => 0), zi G q_498 49 (fun _ => 0), zi G q_499 1960 (fun _ => 0), zi G q_500 147 (fun _ => 0), zi G q_502 64 (fun _ => 0), zi G q_504 49 (fun _ => 0), zi G q_512 40320 (fun _ => 0), zi G q_513 40320 (fun _ => 0), zi G q_514 8 (fun _ => 0), zi G q_515 8 (fun _ => 0), zi G q_517 16 (fun _ => 0)]) [22, 32, 36, 28] [0, 1, 2, 3, 4, 5, 6, 7, 8, 9, 10, 11, 12, 13, 14, 15, 16, 17, 18, 19, 20, 21, 23, 24, 25, 26, 27, 29, 30, 31, 33, 34, 35, 37, 38, 39, 40, 41, 42, 43] rfl rfl (by decide) (by decide) (z_runV E B (As := [.int y1]) (rest := [.int 0]) [22, 32, 36, 28] rfl (by decide) mv_X12_count t_1724 0 (ci := 10) rfl rfl rfl (c_X12_count_232 l G _ q_485 q_497 q_501 q_493 q_486 q_487 q_488 q_489 q_490 q_491 q_492 q_494 q_495 q_496 q_498 q_499 q_500 q_502 q_503 q_504 q_505 q_506 q_507 q_508 q_509 q_510 q_511 q_512 q_513 q_514 q_515 q_516 q_517 q_518 y1) rfl rfl ⟨Nat.le_of_ble_eq_true rfl, Nat.le_of_ble_eq_true rfl⟩ rfl hl.1 rfl (Nat.le_of_ble_eq_true rfl) dL_law_958 ⟨(Nat.le_of_ble_eq_true rfl), (Nat.le_of_ble_eq_true rfl)⟩) (fun r t H locs hp hB J => ?_)
    have B := J _ hB
    have B : zB G A s.heap [zb G q_459 2000 (fun _ => 0), zo q_447 2 [.int 0, .int 0, .int 0, .int 0, .int 0, .int 0], zo q_448 4 [.int 0, .int 0, .ref q_463], zi G q_464 16 (fun _ => 0), zo q_450 0 [.ref q_465, .int 0], zi G q_465 16 (fun _ => 0), zc G q_451 3 (va_up (va_up (va_up (fun _ => none) 0 (some q_468)) 1 (some q_467)) 2 (some q_466)), zc G q_469 40 g_483, zo q_470 0 [.ref q_471, .int 0], zi G q_471 16 (fun _ => 0), zo q_454 1 [.ref q_472, .ref q_473, .ref q_474], zi G q_472 64 (fun _ => 0), zo q_473 0 [.ref q_475, .int 0], zi G q_475 384 (fun _ => 0), zo q_474 0 [.ref q_476, .int 0], zo q_456 8 [.int 0, .int 0, .int 0, .int 0, .int 0, .int 0, .ref q_479], zo q_468 0 [.ref q_480, .int 0], zi G q_480 16 (fun _ => 0), zo q_467 0 [.ref q_481, .int 0], zi G q_481 16 (fun _ => 0), zo q_466 0 [.ref q_482, .int 0], zi G q_482 16 (fun _ => 0), zb G q_486 2000 (fun _ => 0), zi G q_488 403 (fun _ => 0), zi G q_489 403 (fun _ => 0), zi G q_490 403 (fun _ => 0), zj G q_491 403 (fun _ => 0), zi G q_494 8 (fun _ => 0), zi G q_495 4 (fun _ => 0), zi G q_496 8 (fun _ => 0), zi G q_498 49 (fun _ => 0), zi G q_499 1960 (fun _ => 0), zi G q_500 147 (fun _ => 0), zi G q_502 64 (fun _ => 0), zi G q_504 49 (fun _ => 0), zi G q_512 40320 (fun _ => 0), zi G q_513 40320 (fun _ => 0), zi G q_514 8 (fun _ => 0), zi G q_515 8 (fun _ => 0), zi G q_517 16 (fun _ => 0)] _ _ := B
    rcases hp with ⟨c_677, rfl⟩ | ⟨c_678, rfl⟩ | ⟨c_679, rfl⟩ | ⟨c_680, rfl⟩ | ⟨c_681, rfl⟩ | ⟨c_682, rfl⟩ | ⟨c_683, rfl⟩ | ⟨c_684, rfl⟩ | ⟨c_685, rfl⟩ | ⟨c_686, rfl⟩ | ⟨c_687, rfl⟩ | ⟨c_688, rfl⟩ | ⟨c_689, rfl⟩ | ⟨c_690, rfl⟩ | ⟨c_691, rfl⟩ | ⟨c_692, rfl⟩ | ⟨c_693, rfl⟩ | ⟨c_694, rfl⟩ | ⟨c_695, rfl⟩
    · exfalso; omega
    · exfalso; omega
    · exfalso; omega
    · exfalso; omega
    · exfalso; omega
    · skip
      refine lv_icmp_eq (tgt := 966) E.x E.b dL_law_961 (by decide) (fun _ => ?_) (fun c => absurd (by decide +kernel) c)
      refine lv_iinc (v := 6) (lv' := [(3, .int 6), (2, .ref q_485), (1, .ref q_445), (0, .ref b)]) E.x E.b dL_law_966 hl (k := 0) rfl (by decide +kernel) (by decide) rfl (fun ls hl => ?_)
      refine lv_goto (tgt := 18) E.x E.b dL_law_969 (by decide) ?_
      refine lv_iload_n E.x E.b dL_law_18 rfl (lv_at hl 0 rfl) ?_
      refine lv_aload_n E.x E.b dL_law_19 rfl (lv_at hl 3 rfl) ?_
      refine va_slen E.x E.b hX hbl hbA B.2.2 dL_law_20 (z_topi 6 rfl ?_)
      refine lv_bipush (v := 6) E.x E.b dL_law_21 (by decide) ?_
      refine lv_isub E.x E.b dL_law_23 (z_topi 0 (by decide +kernel) ?_)
      refine lv_icmp_gt (tgt := 972) E.x E.b dL_law_24 (by decide) (fun _ => ?_) (fun c => absurd (by decide +kernel) c)
      refine lv_iconst (v := 1) E.x E.b dL_law_972 (by decide) ?_
      refine va_forget (fun q hq => hAe _ (B.2.2.2.2 q hq)) ?_
      refine W.widen (k := 600000) (n := 7302249) (Nat.le_of_ble_eq_true rfl) (Nat.le_of_ble_eq_true rfl) ?_
      exact lw_ret E.x E.b hr hlocks dL_law_973
    · exfalso; omega
    · exfalso; omega
    · exfalso; omega
    · exfalso; omega
    · exfalso; omega
    · exfalso; omega
    · exfalso; omega
    · exfalso; omega
    · exfalso; omega
    · exfalso; omega
    · exfalso; omega
    · exfalso; omega
    · exfalso; omega
  · skip
    refine lv_aload_n E.x E.b dL_law_952 rfl (lv_at hl 1 rfl) ?_
    refine lv_aload_n E.x E.b dL_law_953 rfl (lv_at hl 3 rfl) ?_
    refine lv_iload_n E.x E.b dL_law_954 rfl (lv_at hl 0 rfl) ?_
    refine lv_iconst (v := 1) E.x E.b dL_law_955 (by decide) ?_
    refine lv_iadd E.x E.b dL_law_956 (z_topi 1 (by decide +kernel) ?_)
    refine va_sld E.x E.b hX hbl hbA B.2.2 (show ¬ ((1 : Int32) < 0 ∨ 6 ≤ (1 : Int32).toNatClampNeg) by decide +kernel) dL_law_957 (z_topi y1 hy1.symm ?_)
    refine z_calli E B (wc := [zo q_485 10 (.int 0 :: .ref q_486 :: .int 0 :: .ref q_487 :: .int 0 :: .ref q_488 :: .ref q_489 :: .ref q_490 :: .ref q_491 :: .ref q_492 :: .int 0 :: .int 0 :: .int 0 :: .int 0 :: .int 0 :: .int 0 :: .int (-1) :: .int 0 :: .ref q_493 :: .int 0 :: .int 0 :: .ref q_494 :: .int 0 :: .int 0 :: .ref q_495 :: .int 0 :: .int 0 :: .ref q_496 :: .ref q_497 :: .ref q_498 :: .ref q_499 :: .int 0 :: .int 0 :: .ref q_500 :: .ref q_501 :: .ref q_502 :: .ref q_503 :: .ref q_504 :: .int 0 :: .ref q_505 :: .ref q_506 :: .int 0 :: .int 0 :: .ref q_507 :: .ref q_508 :: .ref q_509 :: .ref q_510 :: .ref q_511 :: .int (-1) :: .ref q_512 :: .ref q_513 :: .ref q_514 :: .ref q_515 :: .ref q_516 :: .ref q_517 :: .ref q_518 :: []), zi G q_497 49 (fun _ => 0), zz G q_501 3 (fun _ => 0), zi G q_493 4 (upd (upd (upd (upd (fun _ => 0) 0 1) 1 1) 2 5) 3 13)]) (wr := [zb G q_459 2000 (fun _ => 0), zo q_447 2 [.int 0, .int 0, .int 0, .int 0, .int 0, .int 0], zo q_448 4 [.int 0, .int 0, .ref q_463], zi G q_464 16 (fun _ => 0), zo q_450 0 [.ref q_465, .int 0], zi G q_465 16 (fun _ => 0), zc G q_451 3 (va_up (va_up (va_up (fun _ => none) 0 (some q_468)) 1 (some q_467)) 2 (some q_466)), zc G q_469 40 g_483, zo q_470 0 [.ref q_471, .int 0], zi G q_471 16 (fun _ => 0), zo q_454 1 [.ref q_472, .ref q_473, .ref q_474], zi G q_472 64 (fun _ => 0), zo q_473 0 [.ref q_475, .int 0], zi G q_475 384 (fun _ => 0), zo q_474 0 [.ref q_476, .int 0], zo q_456 8 [.int 0, .int 0, .int 0, .int 0, .int 0, .int 0, .ref q_479], zo q_468 0 [.ref q_480, .int 0], zi G q_480 16 (fun _ => 0), zo q_467 0 [.ref q_481, .int 0], zi G q_481 16 (fun _ => 0), zo q_466 0 [.ref q_482, .int 0], zi G q_482 16 (fun _ => 0), zb G q_486 2000 (fun _ => 0), zi G q_488 403 (fun _ => 0), zi G q_489 403 (fun _ => 0), zi G q_490 403 (fun _ => 0), zj G q_491 403 (fun _ => 0), zi G q_494 8 (fun _ => 0), zi G q_495 4 (fun _ => 0), zi G q_496 8 (fun _ => 0), zi G q_498 49 (fun _ => 0), zi G q_499 1960 (fun _ => 0), zi G q_500 147 (fun _ => 0), zi G q_502 64 (fun _ => 0), zi G q_504 49 (fun _ => 0), zi G q_512 40320 (fun _ => 0), zi G q_513 40320 (fun _ => 0), zi G q_514 8 (fun _ => 0), zi G q_515 8 (fun _ => 0), zi G q_517 16 (fun _ => 0)]) [22, 32, 36, 28] [0, 1, 2, 3, 4, 5, 6, 7, 8, 9, 10, 11, 12, 13, 14, 15, 16, 17, 18, 19, 20, 21, 23, 24, 25, 26, 27, 29, 30, 31, 33, 34, 35, 37, 38, 39, 40, 41, 42, 43] rfl rfl (by decide) (by decide) (z_runV E B (As := [.int y1]) (rest := [.int 0]) [22, 32, 36, 28] rfl (by decide) mv_X12_count t_1724 0 (ci := 10) rfl rfl rfl (c_X12_count_232 l G _ q_485 q_497 q_501 q_493 q_486 q_487 q_488 q_489 q_490 q_491 q_492 q_494 q_495 q_496 q_498 q_499 q_500 q_502 q_503 q_504 q_505 q_506 q_507 q_508 q_509 q_510 q_511 q_512 q_513 q_514 q_515 q_516 q_517 q_518 y1) rfl rfl ⟨Nat.le_of_ble_eq_true rfl, Nat.le_of_ble_eq_true rfl⟩ rfl hl.1 rfl (Nat.le_of_ble_eq_true rfl) dL_law_958 ⟨(Nat.le_of_ble_eq_true rfl), (Nat.le_of_ble_eq_true rfl)⟩) (fun r t H locs hp hB J => ?_)
    have B := J _ hB
    have B : zB G A s.heap [zb G q_459 2000 (fun _ => 0), zo q_447 2 [.int 0, .int 0, .int 0, .int 0, .int 0, .int 0], zo q_448 4 [.int 0, .int 0, .ref q_463], zi G q_464 16 (fun _ => 0), zo q_450 0 [.ref q_465, .int 0], zi G q_465 16 (fun _ => 0), zc G q_451 3 (va_up (va_up (va_up (fun _ => none) 0 (some q_468)) 1 (some q_467)) 2 (some q_466)), zc G q_469 40 g_483, zo q_470 0 [.ref q_471, .int 0], zi G q_471 16 (fun _ => 0), zo q_454 1 [.ref q_472, .ref q_473, .ref q_474], zi G q_472 64 (fun _ => 0), zo q_473 0 [.ref q_475, .int 0], zi G q_475 384 (fun _ => 0), zo q_474 0 [.ref q_476, .int 0], zo q_456 8 [.int 0, .int 0, .int 0, .int 0, .int 0, .int 0, .ref q_479], zo q_468 0 [.ref q_480, .int 0], zi G q_480 16 (fun _ => 0), zo q_467 0 [.ref q_481, .int 0], zi G q_481 16 (fun _ => 0), zo q_466 0 [.ref q_482, .int 0], zi G q_482 16 (fun _ => 0), zb G q_486 2000 (fun _ => 0), zi G q_488 403 (fun _ => 0), zi G q_489 403 (fun _ => 0), zi G q_490 403 (fun _ => 0), zj G q_491 403 (fun _ => 0), zi G q_494 8 (fun _ => 0), zi G q_495 4 (fun _ => 0), zi G q_496 8 (fun _ => 0), zi G q_498 49 (fun _ => 0), zi G q_499 1960 (fun _ => 0), zi G q_500 147 (fun _ => 0), zi G q_502 64 (fun _ => 0), zi G q_504 49 (fun _ => 0), zi G q_512 40320 (fun _ => 0), zi G q_513 40320 (fun _ => 0), zi G q_514 8 (fun _ => 0), zi G q_515 8 (fun _ => 0), zi G q_517 16 (fun _ => 0)] _ _ := B
    rcases hp with ⟨c_696, rfl⟩ | ⟨c_697, rfl⟩ | ⟨c_698, rfl⟩ | ⟨c_699, rfl⟩ | ⟨c_700, rfl⟩ | ⟨c_701, rfl⟩ | ⟨c_702, rfl⟩ | ⟨c_703, rfl⟩ | ⟨c_704, rfl⟩ | ⟨c_705, rfl⟩ | ⟨c_706, rfl⟩ | ⟨c_707, rfl⟩ | ⟨c_708, rfl⟩ | ⟨c_709, rfl⟩ | ⟨c_710, rfl⟩ | ⟨c_711, rfl⟩ | ⟨c_712, rfl⟩ | ⟨c_713, rfl⟩ | ⟨c_714, rfl⟩
    · exfalso; omega
    · exfalso; omega
    · exfalso; omega
    · exfalso; omega
    · exfalso; omega
    · exfalso; omega
    · skip
      refine lv_icmp_eq (tgt := 966) E.x E.b dL_law_961 (by decide) (fun _ => ?_) (fun c => absurd (by decide +kernel) c)
      refine lv_iinc (v := 6) (lv' := [(3, .int 6), (2, .ref q_485), (1, .ref q_445), (0, .ref b)]) E.x E.b dL_law_966 hl (k := 0) rfl (by decide +kernel) (by decide) rfl (fun ls hl => ?_)
      refine lv_goto (tgt := 18) E.x E.b dL_law_969 (by decide) ?_
      refine lv_iload_n E.x E.b dL_law_18 rfl (lv_at hl 0 rfl) ?_
      refine lv_aload_n E.x E.b dL_law_19 rfl (lv_at hl 3 rfl) ?_
      refine va_slen E.x E.b hX hbl hbA B.2.2 dL_law_20 (z_topi 6 rfl ?_)
      refine lv_bipush (v := 6) E.x E.b dL_law_21 (by decide) ?_
      refine lv_isub E.x E.b dL_law_23 (z_topi 0 (by decide +kernel) ?_)
      refine lv_icmp_gt (tgt := 972) E.x E.b dL_law_24 (by decide) (fun _ => ?_) (fun c => absurd (by decide +kernel) c)
      refine lv_iconst (v := 1) E.x E.b dL_law_972 (by decide) ?_
      refine va_forget (fun q hq => hAe _ (B.2.2.2.2 q hq)) ?_
      refine W.widen (k := 600000) (n := 7302249) (Nat.le_of_ble_eq_true rfl) (Nat.le_of_ble_eq_true rfl) ?_
      exact lw_ret E.x E.b hr hlocks dL_law_973
    · exfalso; omega
    · exfalso; omega
    · exfalso; omega
    · exfalso; omega
    · exfalso; omega
    · exfalso; omega
    · exfalso; omega
    · exfalso; omega
    · exfalso; omega
    · exfalso; omega
    · exfalso; omega
    · exfalso; omega
  · skip
    refine lv_aload_n E.x E.b dL_law_952 rfl (lv_at hl 1 rfl) ?_
    refine lv_aload_n E.x E.b dL_law_953 rfl (lv_at hl 3 rfl) ?_
    refine lv_iload_n E.x E.b dL_law_954 rfl (lv_at hl 0 rfl) ?_
    refine lv_iconst (v := 1) E.x E.b dL_law_955 (by decide) ?_
    refine lv_iadd E.x E.b dL_law_956 (z_topi 1 (by decide +kernel) ?_)
    refine va_sld E.x E.b hX hbl hbA B.2.2 (show ¬ ((1 : Int32) < 0 ∨ 6 ≤ (1 : Int32).toNatClampNeg) by decide +kernel) dL_law_957 (z_topi y1 hy1.symm ?_)
    refine z_calli E B (wc := [zo q_485 10 (.int 0 :: .ref q_486 :: .int 0 :: .ref q_487 :: .int 0 :: .ref q_488 :: .ref q_489 :: .ref q_490 :: .ref q_491 :: .ref q_492 :: .int 0 :: .int 0 :: .int 0 :: .int 0 :: .int 0 :: .int 0 :: .int (-1) :: .int 0 :: .ref q_493 :: .int 0 :: .int 0 :: .ref q_494 :: .int 0 :: .int 0 :: .ref q_495 :: .int 0 :: .int 0 :: .ref q_496 :: .ref q_497 :: .ref q_498 :: .ref q_499 :: .int 0 :: .int 0 :: .ref q_500 :: .ref q_501 :: .ref q_502 :: .ref q_503 :: .ref q_504 :: .int 0 :: .ref q_505 :: .ref q_506 :: .int 0 :: .int 0 :: .ref q_507 :: .ref q_508 :: .ref q_509 :: .ref q_510 :: .ref q_511 :: .int (-1) :: .ref q_512 :: .ref q_513 :: .ref q_514 :: .ref q_515 :: .ref q_516 :: .ref q_517 :: .ref q_518 :: []), zi G q_497 49 (fun _ => 0), zz G q_501 3 (fun _ => 0), zi G q_493 4 (upd (upd (upd (upd (fun _ => 0) 0 1) 1 1) 2 5) 3 13)]) (wr := [zb G q_459 2000 (fun _ => 0), zo q_447 2 [.int 0, .int 0, .int 0, .int 0, .int 0, .int 0], zo q_448 4 [.int 0, .int 0, .ref q_463], zi G q_464 16 (fun _ => 0), zo q_450 0 [.ref q_465, .int 0], zi G q_465 16 (fun _ => 0), zc G q_451 3 (va_up (va_up (va_up (fun _ => none) 0 (some q_468)) 1 (some q_467)) 2 (some q_466)), zc G q_469 40 g_483, zo q_470 0 [.ref q_471, .int 0], zi G q_471 16 (fun _ => 0), zo q_454 1 [.ref q_472, .ref q_473, .ref q_474], zi G q_472 64 (fun _ => 0), zo q_473 0 [.ref q_475, .int 0], zi G q_475 384 (fun _ => 0), zo q_474 0 [.ref q_476, .int 0], zo q_456 8 [.int 0, .int 0, .int 0, .int 0, .int 0, .int 0, .ref q_479], zo q_468 0 [.ref q_480, .int 0], zi G q_480 16 (fun _ => 0), zo q_467 0 [.ref q_481, .int 0], zi G q_481 16 (fun _ => 0), zo q_466 0 [.ref q_482, .int 0], zi G q_482 16 (fun _ => 0), zb G q_486 2000 (fun _ => 0), zi G q_488 403 (fun _ => 0), zi G q_489 403 (fun _ => 0), zi G q_490 403 (fun _ => 0), zj G q_491 403 (fun _ => 0), zi G q_494 8 (fun _ => 0), zi G q_495 4 (fun _ => 0), zi G q_496 8 (fun _ => 0), zi G q_498 49 (fun _ => 0), zi G q_499 1960 (fun _ => 0), zi G q_500 147 (fun _ => 0), zi G q_502 64 (fun _ => 0), zi G q_504 49 (fun _ => 0), zi G q_512 40320 (fun _ => 0), zi G q_513 40320 (fun _ => 0), zi G q_514 8 (fun _ => 0), zi G q_515 8 (fun _ => 0), zi G q_517 16 (fun _ => 0)]) [22, 32, 36, 28] [0, 1, 2, 3, 4, 5, 6, 7, 8, 9, 10, 11, 12, 13, 14, 15, 16, 17, 18, 19, 20, 21, 23, 24, 25, 26, 27, 29, 30, 31, 33, 34, 35, 37, 38, 39, 40, 41, 42, 43] rfl rfl (by decide) (by decide) (z_runV E B (As := [.int y1]) (rest := [.int 0]) [22, 32, 36, 28] rfl (by decide) mv_X12_count t_1724 0 (ci := 10) rfl rfl rfl (c_X12_count_232 l G _ q_485 q_497 q_501 q_493 q_486 q_487 q_488 q_489 q_490 q_491 q_492 q_494 q_495 q_496 q_498 q_499 q_500 q_502 q_503 q_504 q_505 q_506 q_507 q_508 q_509 q_510 q_511 q_512 q_513 q_514 q_515 q_516 q_517 q_518 y1) rfl rfl ⟨Nat.le_of_ble_eq_true rfl, Nat.le_of_ble_eq_true rfl⟩ rfl hl.1 rfl (Nat.le_of_ble_eq_true rfl) dL_law_958 ⟨(Nat.le_of_ble_eq_true rfl), (Nat.le_of_ble_eq_true rfl)⟩) (fun r t H locs hp hB J => ?_)
    have B := J _ hB
    have B : zB G A s.heap [zb G q_459 2000 (fun _ => 0), zo q_447 2 [.int 0, .int 0, .int 0, .int 0, .int 0, .int 0], zo q_448 4 [.int 0, .int 0, .ref q_463], zi G q_464 16 (fun _ => 0), zo q_450 0 [.ref q_465, .int 0], zi G q_465 16 (fun _ => 0), zc G q_451 3 (va_up (va_up (va_up (fun _ => none) 0 (some q_468)) 1 (some q_467)) 2 (some q_466)), zc G q_469 40 g_483, zo q_470 0 [.ref q_471, .int 0], zi G q_471 16 (fun _ => 0), zo q_454 1 [.ref q_472, .ref q_473, .ref q_474], zi G q_472 64 (fun _ => 0), zo q_473 0 [.ref q_475, .int 0], zi G q_475 384 (fun _ => 0), zo q_474 0 [.ref q_476, .int 0], zo q_456 8 [.int 0, .int 0, .int 0, .int 0, .int 0, .int 0, .ref q_479], zo q_468 0 [.ref q_480, .int 0], zi G q_480 16 (fun _ => 0), zo q_467 0 [.ref q_481, .int 0], zi G q_481 16 (fun _ => 0), zo q_466 0 [.ref q_482, .int 0], zi G q_482 16 (fun _ => 0), zb G q_486 2000 (fun _ => 0), zi G q_488 403 (fun _ => 0), zi G q_489 403 (fun _ => 0), zi G q_490 403 (fun _ => 0), zj G q_491 403 (fun _ => 0), zi G q_494 8 (fun _ => 0), zi G q_495 4 (fun _ => 0), zi G q_496 8 (fun _ => 0), zi G q_498 49 (fun _ => 0), zi G q_499 1960 (fun _ => 0), zi G q_500 147 (fun _ => 0), zi G q_502 64 (fun _ => 0), zi G q_504 49 (fun _ => 0), zi G q_512 40320 (fun _ => 0), zi G q_513 40320 (fun _ => 0), zi G q_514 8 (fun _ => 0), zi G q_515 8 (fun _ => 0), zi G q_517 16 (fun _ => 0)] _ _ := B
    rcases hp with ⟨c_715, rfl⟩ | ⟨c_716, rfl⟩ | ⟨c_717, rfl⟩ | ⟨c_718, rfl⟩ | ⟨c_719, rfl⟩ | ⟨c_720, rfl⟩ | ⟨c_721, rfl⟩ | ⟨c_722, rfl⟩ | ⟨c_723, rfl⟩ | ⟨c_724, rfl⟩ | ⟨c_725, rfl⟩ | ⟨c_726, rfl⟩ | ⟨c_727, rfl⟩ | ⟨c_728, rfl⟩ | ⟨c_729, rfl⟩ | ⟨c_730, rfl⟩ | ⟨c_731, rfl⟩ | ⟨c_732, rfl⟩ | ⟨c_733, rfl⟩
    · exfalso; omega
    · exfalso; omega
    · exfalso; omega
    · exfalso; omega
    · exfalso; omega
    · exfalso; omega
    · exfalso; omega
    · skip
      refine lv_icmp_eq (tgt := 966) E.x E.b dL_law_961 (by decide) (fun _ => ?_) (fun c => absurd (by decide +kernel) c)
      refine lv_iinc (v := 6) (lv' := [(3, .int 6), (2, .ref q_485), (1, .ref q_445), (0, .ref b)]) E.x E.b dL_law_966 hl (k := 0) rfl (by decide +kernel) (by decide) rfl (fun ls hl => ?_)
      refine lv_goto (tgt := 18) E.x E.b dL_law_969 (by decide) ?_
      refine lv_iload_n E.x E.b dL_law_18 rfl (lv_at hl 0 rfl) ?_
      refine lv_aload_n E.x E.b dL_law_19 rfl (lv_at hl 3 rfl) ?_
      refine va_slen E.x E.b hX hbl hbA B.2.2 dL_law_20 (z_topi 6 rfl ?_)
      refine lv_bipush (v := 6) E.x E.b dL_law_21 (by decide) ?_
      refine lv_isub E.x E.b dL_law_23 (z_topi 0 (by decide +kernel) ?_)
      refine lv_icmp_gt (tgt := 972) E.x E.b dL_law_24 (by decide) (fun _ => ?_) (fun c => absurd (by decide +kernel) c)
      refine lv_iconst (v := 1) E.x E.b dL_law_972 (by decide) ?_
      refine va_forget (fun q hq => hAe _ (B.2.2.2.2 q hq)) ?_
      refine W.widen (k := 600000) (n := 7302249) (Nat.le_of_ble_eq_true rfl) (Nat.le_of_ble_eq_true rfl) ?_
      exact lw_ret E.x E.b hr hlocks dL_law_973
    · exfalso; omega
    · exfalso; omega
    · exfalso; omega
    · exfalso; omega
    · exfalso; omega
    · exfalso; omega
    · exfalso; omega
    · exfalso; omega
    · exfalso; omega
    · exfalso; omega
    · exfalso; omega
  · skip
    refine lv_aload_n E.x E.b dL_law_952 rfl (lv_at hl 1 rfl) ?_
    refine lv_aload_n E.x E.b dL_law_953 rfl (lv_at hl 3 rfl) ?_
    refine lv_iload_n E.x E.b dL_law_954 rfl (lv_at hl 0 rfl) ?_
    refine lv_iconst (v := 1) E.x E.b dL_law_955 (by decide) ?_
    refine lv_iadd E.x E.b dL_law_956 (z_topi 1 (by decide +kernel) ?_)
    refine va_sld E.x E.b hX hbl hbA B.2.2 (show ¬ ((1 : Int32) < 0 ∨ 6 ≤ (1 : Int32).toNatClampNeg) by decide +kernel) dL_law_957 (z_topi y1 hy1.symm ?_)
    refine z_calli E B (wc := [zo q_485 10 (.int 0 :: .ref q_486 :: .int 0 :: .ref q_487 :: .int 0 :: .ref q_488 :: .ref q_489 :: .ref q_490 :: .ref q_491 :: .ref q_492 :: .int 0 :: .int 0 :: .int 0 :: .int 0 :: .int 0 :: .int 0 :: .int (-1) :: .int 0 :: .ref q_493 :: .int 0 :: .int 0 :: .ref q_494 :: .int 0 :: .int 0 :: .ref q_495 :: .int 0 :: .int 0 :: .ref q_496 :: .ref q_497 :: .ref q_498 :: .ref q_499 :: .int 0 :: .int 0 :: .ref q_500 :: .ref q_501 :: .ref q_502 :: .ref q_503 :: .ref q_504 :: .int 0 :: .ref q_505 :: .ref q_506 :: .int 0 :: .int 0 :: .ref q_507 :: .ref q_508 :: .ref q_509 :: .ref q_510 :: .ref q_511 :: .int (-1) :: .ref q_512 :: .ref q_513 :: .ref q_514 :: .ref q_515 :: .ref q_516 :: .ref q_517 :: .ref q_518 :: []), zi G q_497 49 (fun _ => 0), zz G q_501 3 (fun _ => 0), zi G q_493 4 (upd (upd (upd (upd (fun _ => 0) 0 1) 1 1) 2 5) 3 13)]) (wr := [zb G q_459 2000 (fun _ => 0), zo q_447 2 [.int 0, .int 0, .int 0, .int 0, .int 0, .int 0], zo q_448 4 [.int 0, .int 0, .ref q_463], zi G q_464 16 (fun _ => 0), zo q_450 0 [.ref q_465, .int 0], zi G q_465 16 (fun _ => 0), zc G q_451 3 (va_up (va_up (va_up (fun _ => none) 0 (some q_468)) 1 (some q_467)) 2 (some q_466)), zc G q_469 40 g_483, zo q_470 0 [.ref q_471, .int 0], zi G q_471 16 (fun _ => 0), zo q_454 1 [.ref q_472, .ref q_473, .ref q_474], zi G q_472 64 (fun _ => 0), zo q_473 0 [.ref q_475, .int 0], zi G q_475 384 (fun _ => 0), zo q_474 0 [.ref q_476, .int 0], zo q_456 8 [.int 0, .int 0, .int 0, .int 0, .int 0, .int 0, .ref q_479], zo q_468 0 [.ref q_480, .int 0], zi G q_480 16 (fun _ => 0), zo q_467 0 [.ref q_481, .int 0], zi G q_481 16 (fun _ => 0), zo q_466 0 [.ref q_482, .int 0], zi G q_482 16 (fun _ => 0), zb G q_486 2000 (fun _ => 0), zi G q_488 403 (fun _ => 0), zi G q_489 403 (fun _ => 0), zi G q_490 403 (fun _ => 0), zj G q_491 403 (fun _ => 0), zi G q_494 8 (fun _ => 0), zi G q_495 4 (fun _ => 0), zi G q_496 8 (fun _ => 0), zi G q_498 49 (fun _ => 0), zi G q_499 1960 (fun _ => 0), zi G q_500 147 (fun _ => 0), zi G q_502 64 (fun _ => 0), zi G q_504 49 (fun _ => 0), zi G q_512 40320 (fun _ => 0), zi G q_513 40320 (fun _ => 0), zi G q_514 8 (fun _ => 0), zi G q_515 8 (fun _ => 0), zi G q_517 16 (fun _ => 0)]) [22, 32, 36, 28] [0, 1, 2, 3, 4, 5, 6, 7, 8, 9, 10, 11, 12, 13, 14, 15, 16, 17, 18, 19, 20, 21, 23, 24, 25, 26, 27, 29, 30, 31, 33, 34, 35, 37, 38, 39, 40, 41, 42, 43] rfl rfl (by decide) (by decide) (z_runV E B (As := [.int y1]) (rest := [.int 0]) [22, 32, 36, 28] rfl (by decide) mv_X12_count t_1724 0 (ci := 10) rfl rfl rfl (c_X12_count_232 l G _ q_485 q_497 q_501 q_493 q_486 q_487 q_488 q_489 q_490 q_491 q_492 q_494 q_495 q_496 q_498 q_499 q_500 q_502 q_503 q_504 q_505 q_506 q_507 q_508 q_509 q_510 q_511 q_512 q_513 q_514 q_515 q_516 q_517 q_518 y1) rfl rfl ⟨Nat.le_of_ble_eq_true rfl, Nat.le_of_ble_eq_true rfl⟩ rfl hl.1 rfl (Nat.le_of_ble_eq_true rfl) dL_law_958 ⟨(Nat.le_of_ble_eq_true rfl), (Nat.le_of_ble_eq_true rfl)⟩) (fun r t H locs hp hB J => ?_)
    have B := J _ hB
    have B : zB G A s.heap [zb G q_459 2000 (fun _ => 0), zo q_447 2 [.int 0, .int 0, .int 0, .int 0, .int 0, .int 0], zo q_448 4 [.int 0, .int 0, .ref q_463], zi G q_464 16 (fun _ => 0), zo q_450 0 [.ref q_465, .int 0], zi G q_465 16 (fun _ => 0), zc G q_451 3 (va_up (va_up (va_up (fun _ => none) 0 (some q_468)) 1 (some q_467)) 2 (some q_466)), zc G q_469 40 g_483, zo q_470 0 [.ref q_471, .int 0], zi G q_471 16 (fun _ => 0), zo q_454 1 [.ref q_472, .ref q_473, .ref q_474], zi G q_472 64 (fun _ => 0), zo q_473 0 [.ref q_475, .int 0], zi G q_475 384 (fun _ => 0), zo q_474 0 [.ref q_476, .int 0], zo q_456 8 [.int 0, .int 0, .int 0, .int 0, .int 0, .int 0, .ref q_479], zo q_468 0 [.ref q_480, .int 0], zi G q_480 16 (fun _ => 0), zo q_467 0 [.ref q_481, .int 0], zi G q_481 16 (fun _ => 0), zo q_466 0 [.ref q_482, .int 0], zi G q_482 16 (fun _ => 0), zb G q_486 2000 (fun _ => 0), zi G q_488 403 (fun _ => 0), zi G q_489 403 (fun _ => 0), zi G q_490 403 (fun _ => 0), zj G q_491 403 (fun _ => 0), zi G q_494 8 (fun _ => 0), zi G q_495 4 (fun _ => 0), zi G q_496 8 (fun _ => 0), zi G q_498 49 (fun _ => 0), zi G q_499 1960 (fun _ => 0), zi G q_500 147 (fun _ => 0), zi G q_502 64 (fun _ => 0), zi G q_504 49 (fun _ => 0), zi G q_512 40320 (fun _ => 0), zi G q_513 40320 (fun _ => 0), zi G q_514 8 (fun _ => 0), zi G q_515 8 (fun _ => 0), zi G q_517 16 (fun _ => 0)] _ _ := B
    rcases hp with ⟨c_734, rfl⟩ | ⟨c_735, rfl⟩ | ⟨c_736, rfl⟩ | ⟨c_737, rfl⟩ | ⟨c_738, rfl⟩ | ⟨c_739, rfl⟩ | ⟨c_740, rfl⟩ | ⟨c_741, rfl⟩ | ⟨c_742, rfl⟩ | ⟨c_743, rfl⟩ | ⟨c_744, rfl⟩ | ⟨c_745, rfl⟩ | ⟨c_746, rfl⟩ | ⟨c_747, rfl⟩ | ⟨c_748, rfl⟩ | ⟨c_749, rfl⟩ | ⟨c_750, rfl⟩ | ⟨c_751, rfl⟩ | ⟨c_752, rfl⟩
    · exfalso; omega
    · exfalso; omega
    · exfalso; omega
    · exfalso; omega
    · exfalso; omega
    · exfalso; omega
    · exfalso; omega
    · exfalso; omega
    · skip
      refine lv_icmp_eq (tgt := 966) E.x E.b dL_law_961 (by decide) (fun _ => ?_) (fun c => absurd (by decide +kernel) c)
      refine lv_iinc (v := 6) (lv' := [(3, .int 6), (2, .ref q_485), (1, .ref q_445), (0, .ref b)]) E.x E.b dL_law_966 hl (k := 0) rfl (by decide +kernel) (by decide) rfl (fun ls hl => ?_)
      refine lv_goto (tgt := 18) E.x E.b dL_law_969 (by decide) ?_
      refine lv_iload_n E.x E.b dL_law_18 rfl (lv_at hl 0 rfl) ?_
      refine lv_aload_n E.x E.b dL_law_19 rfl (lv_at hl 3 rfl) ?_
      refine va_slen E.x E.b hX hbl hbA B.2.2 dL_law_20 (z_topi 6 rfl ?_)
      refine lv_bipush (v := 6) E.x E.b dL_law_21 (by decide) ?_
      refine lv_isub E.x E.b dL_law_23 (z_topi 0 (by decide +kernel) ?_)
      refine lv_icmp_gt (tgt := 972) E.x E.b dL_law_24 (by decide) (fun _ => ?_) (fun c => absurd (by decide +kernel) c)
      refine lv_iconst (v := 1) E.x E.b dL_law_972 (by decide) ?_
      refine va_forget (fun q hq => hAe _ (B.2.2.2.2 q hq)) ?_
      refine W.widen (k := 600000) (n := 7302249) (Nat.le_of_ble_eq_true rfl) (Nat.le_of_ble_eq_true rfl) ?_
      exact lw_ret E.x E.b hr hlocks dL_law_973
    · exfalso; omega
    · exfalso; omega
    · exfalso; omega
    · exfalso; omega
    · exfalso; omega
    · exfalso; omega
    · exfalso; omega
    · exfalso; omega
    · exfalso; omega
    · exfalso; omega
  · skip
    refine lv_aload_n E.x E.b dL_law_952 rfl (lv_at hl 1 rfl) ?_
    refine lv_aload_n E.x E.b dL_law_953 rfl (lv_at hl 3 rfl) ?_
    refine lv_iload_n E.x E.b dL_law_954 rfl (lv_at hl 0 rfl) ?_
    refine lv_iconst (v := 1) E.x E.b dL_law_955 (by decide) ?_
    refine lv_iadd E.x E.b dL_law_956 (z_topi 1 (by decide +kernel) ?_)
    refine va_sld E.x E.b hX hbl hbA B.2.2 (show ¬ ((1 : Int32) < 0 ∨ 6 ≤ (1 : Int32).toNatClampNeg) by decide +kernel) dL_law_957 (z_topi y1 hy1.symm ?_)
    refine z_calli E B (wc := [zo q_485 10 (.int 0 :: .ref q_486 :: .int 0 :: .ref q_487 :: .int 0 :: .ref q_488 :: .ref q_489 :: .ref q_490 :: .ref q_491 :: .ref q_492 :: .int 0 :: .int 0 :: .int 0 :: .int 0 :: .int 0 :: .int 0 :: .int (-1) :: .int 0 :: .ref q_493 :: .int 0 :: .int 0 :: .ref q_494 :: .int 0 :: .int 0 :: .ref q_495 :: .int 0 :: .int 0 :: .ref q_496 :: .ref q_497 :: .ref q_498 :: .ref q_499 :: .int 0 :: .int 0 :: .ref q_500 :: .ref q_501 :: .ref q_502 :: .ref q_503 :: .ref q_504 :: .int 0 :: .ref q_505 :: .ref q_506 :: .int 0 :: .int 0 :: .ref q_507 :: .ref q_508 :: .ref q_509 :: .ref q_510 :: .ref q_511 :: .int (-1) :: .ref q_512 :: .ref q_513 :: .ref q_514 :: .ref q_515 :: .ref q_516 :: .ref q_517 :: .ref q_518 :: []), zi G q_497 49 (fun _ => 0), zz G q_501 3 (fun _ => 0), zi G q_493 4 (upd (upd (upd (upd (fun _ => 0) 0 1) 1 1) 2 5) 3 13)]) (wr := [zb G q_459 2000 (fun _ => 0), zo q_447 2 [.int 0, .int 0, .int 0, .int 0, .int 0, .int 0], zo q_448 4 [.int 0, .int 0, .ref q_463], zi G q_464 16 (fun _ => 0), zo q_450 0 [.ref q_465, .int 0], zi G q_465 16 (fun _ => 0), zc G q_451 3 (va_up (va_up (va_up (fun _ => none) 0 (some q_468)) 1 (some q_467)) 2 (some q_466)), zc G q_469 40 g_483, zo q_470 0 [.ref q_471, .int 0], zi G q_471 16 (fun _ => 0), zo q_454 1 [.ref q_472, .ref q_473, .ref q_474], zi G q_472 64 (fun _ => 0), zo q_473 0 [.ref q_475, .int 0], zi G q_475 384 (fun _ => 0), zo q_474 0 [.ref q_476, .int 0], zo q_456 8 [.int 0, .int 0, .int 0, .int 0, .int 0, .int 0, .ref q_479], zo q_468 0 [.ref q_480, .int 0], zi G q_480 16 (fun _ => 0), zo q_467 0 [.ref q_481, .int 0], zi G q_481 16 (fun _ => 0), zo q_466 0 [.ref q_482, .int 0], zi G q_482 16 (fun _ => 0), zb G q_486 2000 (fun _ => 0), zi G q_488 403 (fun _ => 0), zi G q_489 403 (fun _ => 0), zi G q_490 403 (fun _ => 0), zj G q_491 403 (fun _ => 0), zi G q_494 8 (fun _ => 0), zi G q_495 4 (fun _ => 0), zi G q_496 8 (fun _ => 0), zi G q_498 49 (fun _ => 0), zi G q_499 1960 (fun _ => 0), zi G q_500 147 (fun _ => 0), zi G q_502 64 (fun _ => 0), zi G q_504 49 (fun _ => 0), zi G q_512 40320 (fun _ => 0), zi G q_513 40320 (fun _ => 0), zi G q_514 8 (fun _ => 0), zi G q_515 8 (fun _ => 0), zi G q_517 16 (fun _ => 0)]) [22, 32, 36, 28] [0, 1, 2, 3, 4, 5, 6, 7, 8, 9, 10, 11, 12, 13, 14, 15, 16, 17, 18, 19, 20, 21, 23, 24, 25, 26, 27, 29, 30, 31, 33, 34, 35, 37, 38, 39, 40, 41, 42, 43] rfl rfl (by decide) (by decide) (z_runV E B (As := [.int y1]) (rest := [.int 1]) [22, 32, 36, 28] rfl (by decide) mv_X12_count t_1724 0 (ci := 10) rfl rfl rfl (c_X12_count_232 l G _ q_485 q_497 q_501 q_493 q_486 q_487 q_488 q_489 q_490 q_491 q_492 q_494 q_495 q_496 q_498 q_499 q_500 q_502 q_503 q_504 q_505 q_506 q_507 q_508 q_509 q_510 q_511 q_512 q_513 q_514 q_515 q_516 q_517 q_518 y1) rfl rfl ⟨Nat.le_of_ble_eq_true rfl, Nat.le_of_ble_eq_true rfl⟩ rfl hl.1 rfl (Nat.le_of_ble_eq_true rfl) dL_law_958 ⟨(Nat.le_of_ble_eq_true rfl), (Nat.le_of_ble_eq_true rfl)⟩) (fun r t H locs hp hB J => ?_)
    have B := J _ hB
    have B : zB G A s.heap [zb G q_459 2000 (fun _ => 0), zo q_447 2 [.int 0, .int 0, .int 0, .int 0, .int 0, .int 0], zo q_448 4 [.int 0, .int 0, .ref q_463], zi G q_464 16 (fun _ => 0), zo q_450 0 [.ref q_465, .int 0], zi G q_465 16 (fun _ => 0), zc G q_451 3 (va_up (va_up (va_up (fun _ => none) 0 (some q_468)) 1 (some q_467)) 2 (some q_466)), zc G q_469 40 g_483, zo q_470 0 [.ref q_471, .int 0], zi G q_471 16 (fun _ => 0), zo q_454 1 [.ref q_472, .ref q_473, .ref q_474], zi G q_472 64 (fun _ => 0), zo q_473 0 [.ref q_475, .int 0], zi G q_475 384 (fun _ => 0), zo q_474 0 [.ref q_476, .int 0], zo q_456 8 [.int 0, .int 0, .int 0, .int 0, .int 0, .int 0, .ref q_479], zo q_468 0 [.ref q_480, .int 0], zi G q_480 16 (fun _ => 0), zo q_467 0 [.ref q_481, .int 0], zi G q_481 16 (fun _ => 0), zo q_466 0 [.ref q_482, .int 0], zi G q_482 16 (fun _ => 0), zb G q_486 2000 (fun _ => 0), zi G q_488 403 (fun _ => 0), zi G q_489 403 (fun _ => 0), zi G q_490 403 (fun _ => 0), zj G q_491 403 (fun _ => 0), zi G q_494 8 (fun _ => 0), zi G q_495 4 (fun _ => 0), zi G q_496 8 (fun _ => 0), zi G q_498 49 (fun _ => 0), zi G q_499 1960 (fun _ => 0), zi G q_500 147 (fun _ => 0), zi G q_502 64 (fun _ => 0), zi G q_504 49 (fun _ => 0), zi G q_512 40320 (fun _ => 0), zi G q_513 40320 (fun _ => 0), zi G q_514 8 (fun _ => 0), zi G q_515 8 (fun _ => 0), zi G q_517 16 (fun _ => 0)] _ _ := B
    rcases hp with ⟨c_753, rfl⟩ | ⟨c_754, rfl⟩ | ⟨c_755, rfl⟩ | ⟨c_756, rfl⟩ | ⟨c_757, rfl⟩ | ⟨c_758, rfl⟩ | ⟨c_759, rfl⟩ | ⟨c_760, rfl⟩ | ⟨c_761, rfl⟩ | ⟨c_762, rfl⟩ | ⟨c_763, rfl⟩ | ⟨c_764, rfl⟩ | ⟨c_765, rfl⟩ | ⟨c_766, rfl⟩ | ⟨c_767, rfl⟩ | ⟨c_768, rfl⟩ | ⟨c_769, rfl⟩ | ⟨c_770, rfl⟩ | ⟨c_771, rfl⟩
    · exfalso; omega
    · exfalso; omega
    · exfalso; omega
    · exfalso; omega
    · exfalso; omega
    · exfalso; omega
    · exfalso; omega
    · exfalso; omega
    · exfalso; omega
    · exfalso; omega
    · exfalso; omega
    · exfalso; omega
    · exfalso; omega
    · exfalso; omega
    · exfalso; omega
    · skip
      refine lv_icmp_eq (tgt := 966) E.x E.b dL_law_961 (by decide) (fun _ => ?_) (fun c => absurd (by decide +kernel) c)
      refine lv_iinc (v := 6) (lv' := [(3, .int 6), (2, .ref q_485), (1, .ref q_445), (0, .ref b)]) E.x E.b dL_law_966 hl (k := 0) rfl (by decide +kernel) (by decide) rfl (fun ls hl => ?_)
      refine lv_goto (tgt := 18) E.x E.b dL_law_969 (by decide) ?_
      refine lv_iload_n E.x E.b dL_law_18 rfl (lv_at hl 0 rfl) ?_
      refine lv_aload_n E.x E.b dL_law_19 rfl (lv_at hl 3 rfl) ?_
      refine va_slen E.x E.b hX hbl hbA B.2.2 dL_law_20 (z_topi 6 rfl ?_)
      refine lv_bipush (v := 6) E.x E.b dL_law_21 (by decide) ?_
      refine lv_isub E.x E.b dL_law_23 (z_topi 0 (by decide +kernel) ?_)
      refine lv_icmp_gt (tgt := 972) E.x E.b dL_law_24 (by decide) (fun _ => ?_) (fun c => absurd (by decide +kernel) c)
      refine lv_iconst (v := 1) E.x E.b dL_law_972 (by decide) ?_
      refine va_forget (fun q hq => hAe _ (B.2.2.2.2 q hq)) ?_
      refine W.widen (k := 600000) (n := 7302249) (Nat.le_of_ble_eq_true rfl) (Nat.le_of_ble_eq_true rfl) ?_
      exact lw_ret E.x E.b hr hlocks dL_law_973
    · exfalso; omega
    · exfalso; omega
    · exfalso; omega
  · skip
    refine lv_aload_n E.x E.b dL_law_952 rfl (lv_at hl 1 rfl) ?_
    refine lv_aload_n E.x E.b dL_law_953 rfl (lv_at hl 3 rfl) ?_
    refine lv_iload_n E.x E.b dL_law_954 rfl (lv_at hl 0 rfl) ?_
    refine lv_iconst (v := 1) E.x E.b dL_law_955 (by decide) ?_
    refine lv_iadd E.x E.b dL_law_956 (z_topi 1 (by decide +kernel) ?_)
    refine va_sld E.x E.b hX hbl hbA B.2.2 (show ¬ ((1 : Int32) < 0 ∨ 6 ≤ (1 : Int32).toNatClampNeg) by decide +kernel) dL_law_957 (z_topi y1 hy1.symm ?_)
    refine z_calli E B (wc := [zo q_485 10 (.int 0 :: .ref q_486 :: .int 0 :: .ref q_487 :: .int 0 :: .ref q_488 :: .ref q_489 :: .ref q_490 :: .ref q_491 :: .ref q_492 :: .int 0 :: .int 0 :: .int 0 :: .int 0 :: .int 0 :: .int 0 :: .int (-1) :: .int 0 :: .ref q_493 :: .int 0 :: .int 0 :: .ref q_494 :: .int 0 :: .int 0 :: .ref q_495 :: .int 0 :: .int 0 :: .ref q_496 :: .ref q_497 :: .ref q_498 :: .ref q_499 :: .int 0 :: .int 0 :: .ref q_500 :: .ref q_501 :: .ref q_502 :: .ref q_503 :: .ref q_504 :: .int 0 :: .ref q_505 :: .ref q_506 :: .int 0 :: .int 0 :: .ref q_507 :: .ref q_508 :: .ref q_509 :: .ref q_510 :: .ref q_511 :: .int (-1) :: .ref q_512 :: .ref q_513 :: .ref q_514 :: .ref q_515 :: .ref q_516 :: .ref q_517 :: .ref q_518 :: []), zi G q_497 49 (fun _ => 0), zz G q_501 3 (fun _ => 0), zi G q_493 4 (upd (upd (upd (upd (fun _ => 0) 0 1) 1 1) 2 5) 3 13)]) (wr := [zb G q_459 2000 (fun _ => 0), zo q_447 2 [.int 0, .int 0, .int 0, .int 0, .int 0, .int 0], zo q_448 4 [.int 0, .int 0, .ref q_463], zi G q_464 16 (fun _ => 0), zo q_450 0 [.ref q_465, .int 0], zi G q_465 16 (fun _ => 0), zc G q_451 3 (va_up (va_up (va_up (fun _ => none) 0 (some q_468)) 1 (some q_467)) 2 (some q_466)), zc G q_469 40 g_483, zo q_470 0 [.ref q_471, .int 0], zi G q_471 16 (fun _ => 0), zo q_454 1 [.ref q_472, .ref q_473, .ref q_474], zi G q_472 64 (fun _ => 0), zo q_473 0 [.ref q_475, .int 0], zi G q_475 384 (fun _ => 0), zo q_474 0 [.ref q_476, .int 0], zo q_456 8 [.int 0, .int 0, .int 0, .int 0, .int 0, .int 0, .ref q_479], zo q_468 0 [.ref q_480, .int 0], zi G q_480 16 (fun _ => 0), zo q_467 0 [.ref q_481, .int 0], zi G q_481 16 (fun _ => 0), zo q_466 0 [.ref q_482, .int 0], zi G q_482 16 (fun _ => 0), zb G q_486 2000 (fun _ => 0), zi G q_488 403 (fun _ => 0), zi G q_489 403 (fun _ => 0), zi G q_490 403 (fun _ => 0), zj G q_491 403 (fun _ => 0), zi G q_494 8 (fun _ => 0), zi G q_495 4 (fun _ => 0), zi G q_496 8 (fun _ => 0), zi G q_498 49 (fun _ => 0), zi G q_499 1960 (fun _ => 0), zi G q_500 147 (fun _ => 0), zi G q_502 64 (fun _ => 0), zi G q_504 49 (fun _ => 0), zi G q_512 40320 (fun _ => 0), zi G q_513 40320 (fun _ => 0), zi G q_514 8 (fun _ => 0), zi G q_515 8 (fun _ => 0), zi G q_517 16 (fun _ => 0)]) [22, 32, 36, 28] [0, 1, 2, 3, 4, 5, 6, 7, 8, 9, 10, 11, 12, 13, 14, 15, 16, 17, 18, 19, 20, 21, 23, 24, 25, 26, 27, 29, 30, 31, 33, 34, 35, 37, 38, 39, 40, 41, 42, 43] rfl rfl (by decide) (by decide) (z_runV E B (As := [.int y1]) (rest := [.int 1]) [22, 32, 36, 28] rfl (by decide) mv_X12_count t_1724 0 (ci := 10) rfl rfl rfl (c_X12_count_232 l G _ q_485 q_497 q_501 q_493 q_486 q_487 q_488 q_489 q_490 q_491 q_492 q_494 q_495 q_496 q_498 q_499 q_500 q_502 q_503 q_504 q_505 q_506 q_507 q_508 q_509 q_510 q_511 q_512 q_513 q_514 q_515 q_516 q_517 q_518 y1) rfl rfl ⟨Nat.le_of_ble_eq_true rfl, Nat.le_of_ble_eq_true rfl⟩ rfl hl.1 rfl (Nat.le_of_ble_eq_true rfl) dL_law_958 ⟨(Nat.le_of_ble_eq_true rfl), (Nat.le_of_ble_eq_true rfl)⟩) (fun r t H locs hp hB J => ?_)
    have B := J _ hB
    have B : zB G A s.heap [zb G q_459 2000 (fun _ => 0), zo q_447 2 [.int 0, .int 0, .int 0, .int 0, .int 0, .int 0], zo q_448 4 [.int 0, .int 0, .ref q_463], zi G q_464 16 (fun _ => 0), zo q_450 0 [.ref q_465, .int 0], zi G q_465 16 (fun _ => 0), zc G q_451 3 (va_up (va_up (va_up (fun _ => none) 0 (some q_468)) 1 (some q_467)) 2 (some q_466)), zc G q_469 40 g_483, zo q_470 0 [.ref q_471, .int 0], zi G q_471 16 (fun _ => 0), zo q_454 1 [.ref q_472, .ref q_473, .ref q_474], zi G q_472 64 (fun _ => 0), zo q_473 0 [.ref q_475, .int 0], zi G q_475 384 (fun _ => 0), zo q_474 0 [.ref q_476, .int 0], zo q_456 8 [.int 0, .int 0, .int 0, .int 0, .int 0, .int 0, .ref q_479], zo q_468 0 [.ref q_480, .int 0], zi G q_480 16 (fun _ => 0), zo q_467 0 [.ref q_481, .int 0], zi G q_481 16 (fun _ => 0), zo q_466 0 [.ref q_482, .int 0], zi G q_482 16 (fun _ => 0), zb G q_486 2000 (fun _ => 0), zi G q_488 403 (fun _ => 0), zi G q_489 403 (fun _ => 0), zi G q_490 403 (fun _ => 0), zj G q_491 403 (fun _ => 0), zi G q_494 8 (fun _ => 0), zi G q_495 4 (fun _ => 0), zi G q_496 8 (fun _ => 0), zi G q_498 49 (fun _ => 0), zi G q_499 1960 (fun _ => 0), zi G q_500 147 (fun _ => 0), zi G q_502 64 (fun _ => 0), zi G q_504 49 (fun _ => 0), zi G q_512 40320 (fun _ => 0), zi G q_513 40320 (fun _ => 0), zi G q_514 8 (fun _ => 0), zi G q_515 8 (fun _ => 0), zi G q_517 16 (fun _ => 0)] _ _ := B
    rcases hp with ⟨c_772, rfl⟩ | ⟨c_773, rfl⟩ | ⟨c_774, rfl⟩ | ⟨c_775, rfl⟩ | ⟨c_776, rfl⟩ | ⟨c_777, rfl⟩ | ⟨c_778, rfl⟩ | ⟨c_779, rfl⟩ | ⟨c_780, rfl⟩ | ⟨c_781, rfl⟩ | ⟨c_782, rfl⟩ | ⟨c_783, rfl⟩ | ⟨c_784, rfl⟩ | ⟨c_785, rfl⟩ | ⟨c_786, rfl⟩ | ⟨c_787, rfl⟩ | ⟨c_788, rfl⟩ | ⟨c_789, rfl⟩ | ⟨c_790, rfl⟩
    · exfalso; omega
    · exfalso; omega
    · exfalso; omega
    · exfalso; omega
    · exfalso; omega
    · exfalso; omega
    · exfalso; omega
    · exfalso; omega
    · exfalso; omega
    · exfalso; omega
    · exfalso; omega
    · exfalso; omega
    · exfalso; omega
    · exfalso; omega
    · exfalso; omega
    · exfalso; omega
    · skip
      refine lv_icmp_eq (tgt := 966) E.x E.b dL_law_961 (by decide) (fun _ => ?_) (fun c => absurd (by decide +kernel) c)
      refine lv_iinc (v := 6) (lv' := [(3, .int 6), (2, .ref q_485), (1, .ref q_445), (0, .ref b)]) E.x E.b dL_law_966 hl (k := 0) rfl (by decide +kernel) (by decide) rfl (fun ls hl => ?_)
      refine lv_goto (tgt := 18) E.x E.b dL_law_969 (by decide) ?_
      refine lv_iload_n E.x E.b dL_law_18 rfl (lv_at hl 0 rfl) ?_
      refine lv_aload_n E.x E.b dL_law_19 rfl (lv_at hl 3 rfl) ?_
      refine va_slen E.x E.b hX hbl hbA B.2.2 dL_law_20 (z_topi 6 rfl ?_)
      refine lv_bipush (v := 6) E.x E.b dL_law_21 (by decide) ?_
      refine lv_isub E.x E.b dL_law_23 (z_topi 0 (by decide +kernel) ?_)
      refine lv_icmp_gt (tgt := 972) E.x E.b dL_law_24 (by decide) (fun _ => ?_) (fun c => absurd (by decide +kernel) c)
      refine lv_iconst (v := 1) E.x E.b dL_law_972 (by decide) ?_
      refine va_forget (fun q hq => hAe _ (B.2.2.2.2 q hq)) ?_
      refine W.widen (k := 600000) (n := 7302249) (Nat.le_of_ble_eq_true rfl) (Nat.le_of_ble_eq_true rfl) ?_
      exact lw_ret E.x E.b hr hlocks dL_law_973
    · exfalso; omega
    · exfalso; omega
  · skip
    refine lv_aload_n E.x E.b dL_law_952 rfl (lv_at hl 1 rfl) ?_
    refine lv_aload_n E.x E.b dL_law_953 rfl (lv_at hl 3 rfl) ?_
    refine lv_iload_n E.x E.b dL_law_954 rfl (lv_at hl 0 rfl) ?_
    refine lv_iconst (v := 1) E.x E.b dL_law_955 (by decide) ?_
    refine lv_iadd E.x E.b dL_law_956 (z_topi 1 (by decide +kernel) ?_)
    refine va_sld E.x E.b hX hbl hbA B.2.2 (show ¬ ((1 : Int32) < 0 ∨ 6 ≤ (1 : Int32).toNatClampNeg) by decide +kernel) dL_law_957 (z_topi y1 hy1.symm ?_)
    refine z_calli E B (wc := [zo q_485 10 (.int 0 :: .ref q_486 :: .int 0 :: .ref q_487 :: .int 0 :: .ref q_488 :: .ref q_489 :: .ref q_490 :: .ref q_491 :: .ref q_492 :: .int 0 :: .int 0 :: .int 0 :: .int 0 :: .int 0 :: .int 0 :: .int (-1) :: .int 0 :: .ref q_493 :: .int 0 :: .int 0 :: .ref q_494 :: .int 0 :: .int 0 :: .ref q_495 :: .int 0 :: .int 0 :: .ref q_496 :: .ref q_497 :: .ref q_498 :: .ref q_499 :: .int 0 :: .int 0 :: .ref q_500 :: .ref q_501 :: .ref q_502 :: .ref q_503 :: .ref q_504 :: .int 0 :: .ref q_505 :: .ref q_506 :: .int 0 :: .int 0 :: .ref q_507 :: .ref q_508 :: .ref q_509 :: .ref q_510 :: .ref q_511 :: .int (-1) :: .ref q_512 :: .ref q_513 :: .ref q_514 :: .ref q_515 :: .ref q_516 :: .ref q_517 :: .ref q_518 :: []), zi G q_497 49 (fun _ => 0), zz G q_501 3 (fun _ => 0), zi G q_493 4 (upd (upd (upd (upd (fun _ => 0) 0 1) 1 1) 2 5) 3 13)]) (wr := [zb G q_459 2000 (fun _ => 0), zo q_447 2 [.int 0, .int 0, .int 0, .int 0, .int 0, .int 0], zo q_448 4 [.int 0, .int 0, .ref q_463], zi G q_464 16 (fun _ => 0), zo q_450 0 [.ref q_465, .int 0], zi G q_465 16 (fun _ => 0), zc G q_451 3 (va_up (va_up (va_up (fun _ => none) 0 (some q_468)) 1 (some q_467)) 2 (some q_466)), zc G q_469 40 g_483, zo q_470 0 [.ref q_471, .int 0], zi G q_471 16 (fun _ => 0), zo q_454 1 [.ref q_472, .ref q_473, .ref q_474], zi G q_472 64 (fun _ => 0), zo q_473 0 [.ref q_475, .int 0], zi G q_475 384 (fun _ => 0), zo q_474 0 [.ref q_476, .int 0], zo q_456 8 [.int 0, .int 0, .int 0, .int 0, .int 0, .int 0, .ref q_479], zo q_468 0 [.ref q_480, .int 0], zi G q_480 16 (fun _ => 0), zo q_467 0 [.ref q_481, .int 0], zi G q_481 16 (fun _ => 0), zo q_466 0 [.ref q_482, .int 0], zi G q_482 16 (fun _ => 0), zb G q_486 2000 (fun _ => 0), zi G q_488 403 (fun _ => 0), zi G q_489 403 (fun _ => 0), zi G q_490 403 (fun _ => 0), zj G q_491 403 (fun _ => 0), zi G q_494 8 (fun _ => 0), zi G q_495 4 (fun _ => 0), zi G q_496 8 (fun _ => 0), zi G q_498 49 (fun _ => 0), zi G q_499 1960 (fun _ => 0), zi G q_500 147 (fun _ => 0), zi G q_502 64 (fun _ => 0), zi G q_504 49 (fun _ => 0), zi G q_512 40320 (fun _ => 0), zi G q_513 40320 (fun _ => 0), zi G q_514 8 (fun _ => 0), zi G q_515 8 (fun _ => 0), zi G q_517 16 (fun _ => 0)]) [22, 32, 36, 28] [0, 1, 2, 3, 4, 5, 6, 7, 8, 9, 10, 11, 12, 13, 14, 15, 16, 17, 18, 19, 20, 21, 23, 24, 25, 26, 27, 29, 30, 31, 33, 34, 35, 37, 38, 39, 40, 41, 42, 43] rfl rfl (by decide) (by decide) (z_runV E B (As := [.int y1]) (rest := [.int 5]) [22, 32, 36, 28] rfl (by decide) mv_X12_count t_1724 0 (ci := 10) rfl rfl rfl (c_X12_count_232 l G _ q_485 q_497 q_501 q_493 q_486 q_487 q_488 q_489 q_490 q_491 q_492 q_494 q_495 q_496 q_498 q_499 q_500 q_502 q_503 q_504 q_505 q_506 q_507 q_508 q_509 q_510 q_511 q_512 q_513 q_514 q_515 q_516 q_517 q_518 y1) rfl rfl ⟨Nat.le_of_ble_eq_true rfl, Nat.le_of_ble_eq_true rfl⟩ rfl hl.1 rfl (Nat.le_of_ble_eq_true rfl) dL_law_958 ⟨(Nat.le_of_ble_eq_true rfl), (Nat.le_of_ble_eq_true rfl)⟩) (fun r t H locs hp hB J => ?_)
    have B := J _ hB
    have B : zB G A s.heap [zb G q_459 2000 (fun _ => 0), zo q_447 2 [.int 0, .int 0, .int 0, .int 0, .int 0, .int 0], zo q_448 4 [.int 0, .int 0, .ref q_463], zi G q_464 16 (fun _ => 0), zo q_450 0 [.ref q_465, .int 0], zi G q_465 16 (fun _ => 0), zc G q_451 3 (va_up (va_up (va_up (fun _ => none) 0 (some q_468)) 1 (some q_467)) 2 (some q_466)), zc G q_469 40 g_483, zo q_470 0 [.ref q_471, .int 0], zi G q_471 16 (fun _ => 0), zo q_454 1 [.ref q_472, .ref q_473, .ref q_474], zi G q_472 64 (fun _ => 0), zo q_473 0 [.ref q_475, .int 0], zi G q_475 384 (fun _ => 0), zo q_474 0 [.ref q_476, .int 0], zo q_456 8 [.int 0, .int 0, .int 0, .int 0, .int 0, .int 0, .ref q_479], zo q_468 0 [.ref q_480, .int 0], zi G q_480 16 (fun _ => 0), zo q_467 0 [.ref q_481, .int 0], zi G q_481 16 (fun _ => 0), zo q_466 0 [.ref q_482, .int 0], zi G q_482 16 (fun _ => 0), zb G q_486 2000 (fun _ => 0), zi G q_488 403 (fun _ => 0), zi G q_489 403 (fun _ => 0), zi G q_490 403 (fun _ => 0), zj G q_491 403 (fun _ => 0), zi G q_494 8 (fun _ => 0), zi G q_495 4 (fun _ => 0), zi G q_496 8 (fun _ => 0), zi G q_498 49 (fun _ => 0), zi G q_499 1960 (fun _ => 0), zi G q_500 147 (fun _ => 0), zi G q_502 64 (fun _ => 0), zi G q_504 49 (fun _ => 0), zi G q_512 40320 (fun _ => 0), zi G q_513 40320 (fun _ => 0), zi G q_514 8 (fun _ => 0), zi G q_515 8 (fun _ => 0), zi G q_517 16 (fun _ => 0)] _ _ := B
    rcases hp with ⟨c_791, rfl⟩ | ⟨c_792, rfl⟩ | ⟨c_793, rfl⟩ | ⟨c_794, rfl⟩ | ⟨c_795, rfl⟩ | ⟨c_796, rfl⟩ | ⟨c_797, rfl⟩ | ⟨c_798, rfl⟩ | ⟨c_799, rfl⟩ | ⟨c_800, rfl⟩ | ⟨c_801, rfl⟩ | ⟨c_802, rfl⟩ | ⟨c_803, rfl⟩ | ⟨c_804, rfl⟩ | ⟨c_805, rfl⟩ | ⟨c_806, rfl⟩ | ⟨c_807, rfl⟩ | ⟨c_808, rfl⟩ | ⟨c_809, rfl⟩
    · exfalso; omega
    · exfalso; omega
    · exfalso; omega
    · exfalso; omega
    · exfalso; omega
    · exfalso; omega
    · exfalso; omega
    · exfalso; omega
    · exfalso; omega
    · exfalso; omega
    · exfalso; omega
    · exfalso; omega
    · exfalso; omega
    · exfalso; omega
    · exfalso; omega
    · exfalso; omega
    · exfalso; omega
    · skip
      refine lv_icmp_eq (tgt := 966) E.x E.b dL_law_961 (by decide) (fun _ => ?_) (fun c => absurd (by decide +kernel) c)
      refine lv_iinc (v := 6) (lv' := [(3, .int 6), (2, .ref q_485), (1, .ref q_445), (0, .ref b)]) E.x E.b dL_law_966 hl (k := 0) rfl (by decide +kernel) (by decide) rfl (fun ls hl => ?_)
      refine lv_goto (tgt := 18) E.x E.b dL_law_969 (by decide) ?_
      refine lv_iload_n E.x E.b dL_law_18 rfl (lv_at hl 0 rfl) ?_
      refine lv_aload_n E.x E.b dL_law_19 rfl (lv_at hl 3 rfl) ?_
      refine va_slen E.x E.b hX hbl hbA B.2.2 dL_law_20 (z_topi 6 rfl ?_)
      refine lv_bipush (v := 6) E.x E.b dL_law_21 (by decide) ?_
      refine lv_isub E.x E.b dL_law_23 (z_topi 0 (by decide +kernel) ?_)
      refine lv_icmp_gt (tgt := 972) E.x E.b dL_law_24 (by decide) (fun _ => ?_) (fun c => absurd (by decide +kernel) c)
      refine lv_iconst (v := 1) E.x E.b dL_law_972 (by decide) ?_
      refine va_forget (fun q hq => hAe _ (B.2.2.2.2 q hq)) ?_
      refine W.widen (k := 600000) (n := 7302249) (Nat.le_of_ble_eq_true rfl) (Nat.le_of_ble_eq_true rfl) ?_
      exact lw_ret E.x E.b hr hlocks dL_law_973
    · exfalso; omega
  · skip
    refine lv_aload_n E.x E.b dL_law_952 rfl (lv_at hl 1 rfl) ?_
    refine lv_aload_n E.x E.b dL_law_953 rfl (lv_at hl 3 rfl) ?_
    refine lv_iload_n E.x E.b dL_law_954 rfl (lv_at hl 0 rfl) ?_
    refine lv_iconst (v := 1) E.x E.b dL_law_955 (by decide) ?_
    refine lv_iadd E.x E.b dL_law_956 (z_topi 1 (by decide +kernel) ?_)
    refine va_sld E.x E.b hX hbl hbA B.2.2 (show ¬ ((1 : Int32) < 0 ∨ 6 ≤ (1 : Int32).toNatClampNeg) by decide +kernel) dL_law_957 (z_topi y1 hy1.symm ?_)
    refine z_calli E B (wc := [zo q_485 10 (.int 0 :: .ref q_486 :: .int 0 :: .ref q_487 :: .int 0 :: .ref q_488 :: .ref q_489 :: .ref q_490 :: .ref q_491 :: .ref q_492 :: .int 0 :: .int 0 :: .int 0 :: .int 0 :: .int 0 :: .int 0 :: .int (-1) :: .int 0 :: .ref q_493 :: .int 0 :: .int 0 :: .ref q_494 :: .int 0 :: .int 0 :: .ref q_495 :: .int 0 :: .int 0 :: .ref q_496 :: .ref q_497 :: .ref q_498 :: .ref q_499 :: .int 0 :: .int 0 :: .ref q_500 :: .ref q_501 :: .ref q_502 :: .ref q_503 :: .ref q_504 :: .int 0 :: .ref q_505 :: .ref q_506 :: .int 0 :: .int 0 :: .ref q_507 :: .ref q_508 :: .ref q_509 :: .ref q_510 :: .ref q_511 :: .int (-1) :: .ref q_512 :: .ref q_513 :: .ref q_514 :: .ref q_515 :: .ref q_516 :: .ref q_517 :: .ref q_518 :: []), zi G q_497 49 (fun _ => 0), zz G q_501 3 (fun _ => 0), zi G q_493 4 (upd (upd (upd (upd (fun _ => 0) 0 1) 1 1) 2 5) 3 13)]) (wr := [zb G q_459 2000 (fun _ => 0), zo q_447 2 [.int 0, .int 0, .int 0, .int 0, .int 0, .int 0], zo q_448 4 [.int 0, .int 0, .ref q_463], zi G q_464 16 (fun _ => 0), zo q_450 0 [.ref q_465, .int 0], zi G q_465 16 (fun _ => 0), zc G q_451 3 (va_up (va_up (va_up (fun _ => none) 0 (some q_468)) 1 (some q_467)) 2 (some q_466)), zc G q_469 40 g_483, zo q_470 0 [.ref q_471, .int 0], zi G q_471 16 (fun _ => 0), zo q_454 1 [.ref q_472, .ref q_473, .ref q_474], zi G q_472 64 (fun _ => 0), zo q_473 0 [.ref q_475, .int 0], zi G q_475 384 (fun _ => 0), zo q_474 0 [.ref q_476, .int 0], zo q_456 8 [.int 0, .int 0, .int 0, .int 0, .int 0, .int 0, .ref q_479], zo q_468 0 [.ref q_480, .int 0], zi G q_480 16 (fun _ => 0), zo q_467 0 [.ref q_481, .int 0], zi G q_481 16 (fun _ => 0), zo q_466 0 [.ref q_482, .int 0], zi G q_482 16 (fun _ => 0), zb G q_486 2000 (fun _ => 0), zi G q_488 403 (fun _ => 0), zi G q_489 403 (fun _ => 0), zi G q_490 403 (fun _ => 0), zj G q_491 403 (fun _ => 0), zi G q_494 8 (fun _ => 0), zi G q_495 4 (fun _ => 0), zi G q_496 8 (fun _ => 0), zi G q_498 49 (fun _ => 0), zi G q_499 1960 (fun _ => 0), zi G q_500 147 (fun _ => 0), zi G q_502 64 (fun _ => 0), zi G q_504 49 (fun _ => 0), zi G q_512 40320 (fun _ => 0), zi G q_513 40320 (fun _ => 0), zi G q_514 8 (fun _ => 0), zi G q_515 8 (fun _ => 0), zi G q_517 16 (fun _ => 0)]) [22, 32, 36, 28] [0, 1, 2, 3, 4, 5, 6, 7, 8, 9, 10, 11, 12, 13, 14, 15, 16, 17, 18, 19, 20, 21, 23, 24, 25, 26, 27, 29, 30, 31, 33, 34, 35, 37, 38, 39, 40, 41, 42, 43] rfl rfl (by decide) (by decide) (z_runV E B (As := [.int y1]) (rest := [.int 13]) [22, 32, 36, 28] rfl (by decide) mv_X12_count t_1724 0 (ci := 10) rfl rfl rfl (c_X12_count_232 l G _ q_485 q_497 q_501 q_493 q_486 q_487 q_488 q_489 q_490 q_491 q_492 q_494 q_495 q_496 q_498 q_499 q_500 q_502 q_503 q_504 q_505 q_506 q_507 q_508 q_509 q_510 q_511 q_512 q_513 q_514 q_515 q_516 q_517 q_518 y1) rfl rfl ⟨Nat.le_of_ble_eq_true rfl, Nat.le_of_ble_eq_true rfl⟩ rfl hl.1 rfl (Nat.le_of_ble_eq_true rfl) dL_law_958 ⟨(Nat.le_of_ble_eq_true rfl), (Nat.le_of_ble_eq_true rfl)⟩) (fun r t H locs hp hB J => ?_)
    have B := J _ hB
    have B : zB G A s.heap [zb G q_459 2000 (fun _ => 0), zo q_447 2 [.int 0, .int 0, .int 0, .int 0, .int 0, .int 0], zo q_448 4 [.int 0, .int 0, .ref q_463], zi G q_464 16 (fun _ => 0), zo q_450 0 [.ref q_465, .int 0], zi G q_465 16 (fun _ => 0), zc G q_451 3 (va_up (va_up (va_up (fun _ => none) 0 (some q_468)) 1 (some q_467)) 2 (some q_466)), zc G q_469 40 g_483, zo q_470 0 [.ref q_471, .int 0], zi G q_471 16 (fun _ => 0), zo q_454 1 [.ref q_472, .ref q_473, .ref q_474], zi G q_472 64 (fun _ => 0), zo q_473 0 [.ref q_475, .int 0], zi G q_475 384 (fun _ => 0), zo q_474 0 [.ref q_476, .int 0], zo q_456 8 [.int 0, .int 0, .int 0, .int 0, .int 0, .int 0, .ref q_479], zo q_468 0 [.ref q_480, .int 0], zi G q_480 16 (fun _ => 0), zo q_467 0 [.ref q_481, .int 0], zi G q_481 16 (fun _ => 0), zo q_466 0 [.ref q_482, .int 0], zi G q_482 16 (fun _ => 0), zb G q_486 2000 (fun _ => 0), zi G q_488 403 (fun _ => 0), zi G q_489 403 (fun _ => 0), zi G q_490 403 (fun _ => 0), zj G q_491 403 (fun _ => 0), zi G q_494 8 (fun _ => 0), zi G q_495 4 (fun _ => 0), zi G q_496 8 (fun _ => 0), zi G q_498 49 (fun _ => 0), zi G q_499 1960 (fun _ => 0), zi G q_500 147 (fun _ => 0), zi G q_502 64 (fun _ => 0), zi G q_504 49 (fun _ => 0), zi G q_512 40320 (fun _ => 0), zi G q_513 40320 (fun _ => 0), zi G q_514 8 (fun _ => 0), zi G q_515 8 (fun _ => 0), zi G q_517 16 (fun _ => 0)] _ _ := B
    rcases hp with ⟨c_810, rfl⟩ | ⟨c_811, rfl⟩ | ⟨c_812, rfl⟩ | ⟨c_813, rfl⟩ | ⟨c_814, rfl⟩ | ⟨c_815, rfl⟩ | ⟨c_816, rfl⟩ | ⟨c_817, rfl⟩ | ⟨c_818, rfl⟩ | ⟨c_819, rfl⟩ | ⟨c_820, rfl⟩ | ⟨c_821, rfl⟩ | ⟨c_822, rfl⟩ | ⟨c_823, rfl⟩ | ⟨c_824, rfl⟩ | ⟨c_825, rfl⟩ | ⟨c_826, rfl⟩ | ⟨c_827, rfl⟩ | ⟨c_828, rfl⟩
    · exfalso; omega
    · exfalso; omega
    · exfalso; omega
    · exfalso; omega
    · exfalso; omega
    · exfalso; omega
    · exfalso; omega
    · exfalso; omega
    · exfalso; omega
    · exfalso; omega
    · exfalso; omega
    · exfalso; omega
    · exfalso; omega
    · exfalso; omega
    · exfalso; omega
    · exfalso; omega
    · exfalso; omega
    · exfalso; omega
    · skip
      refine lv_icmp_eq (tgt := 966) E.x E.b dL_law_961 (by decide) (fun _ => ?_) (fun c => absurd (by decide +kernel) c)
      refine lv_iinc (v := 6) (lv' := [(3, .int 6), (2, .ref q_485), (1, .ref q_445), (0, .ref b)]) E.x E.b dL_law_966 hl (k := 0) rfl (by decide +kernel) (by decide) rfl (fun ls hl => ?_)
      refine lv_goto (tgt := 18) E.x E.b dL_law_969 (by decide) ?_
      refine lv_iload_n E.x E.b dL_law_18 rfl (lv_at hl 0 rfl) ?_
      refine lv_aload_n E.x E.b dL_law_19 rfl (lv_at hl 3 rfl) ?_
      refine va_slen E.x E.b hX hbl hbA B.2.2 dL_law_20 (z_topi 6 rfl ?_)
      refine lv_bipush (v := 6) E.x E.b dL_law_21 (by decide) ?_
      refine lv_isub E.x E.b dL_law_23 (z_topi 0 (by decide +kernel) ?_)
      refine lv_icmp_gt (tgt := 972) E.x E.b dL_law_24 (by decide) (fun _ => ?_) (fun c => absurd (by decide +kernel) c)
      refine lv_iconst (v := 1) E.x E.b dL_law_972 (by decide) ?_
      refine va_forget (fun q hq => hAe _ (B.2.2.2.2 q hq)) ?_
      refine W.widen (k := 600000) (n := 7302249) (Nat.le_of_ble_eq_true rfl) (Nat.le_of_ble_eq_true rfl) ?_
      exact lw_ret E.x E.b hr hlocks dL_law_973
  · skip
    refine lv_aload_n E.x E.b dL_law_952 rfl (lv_at hl 1 rfl) ?_
    refine lv_aload_n E.x E.b dL_law_953 rfl (lv_at hl 3 rfl) ?_
    refine lv_iload_n E.x E.b dL_law_954 rfl (lv_at hl 0 rfl) ?_
    refine lv_iconst (v := 1) E.x E.b dL_law_955 (by decide) ?_
    refine lv_iadd E.x E.b dL_law_956 (z_topi 1 (by decide +kernel) ?_)
    refine va_sld E.x E.b hX hbl hbA B.2.2 (show ¬ ((1 : Int32) < 0 ∨ 6 ≤ (1 : Int32).toNatClampNeg) by decide +kernel) dL_law_957 (z_topi y1 hy1.symm ?_)
    refine z_calli E B (wc := [zo q_485 10 (.int 0 :: .ref q_486 :: .int 0 :: .ref q_487 :: .int 0 :: .ref q_488 :: .ref q_489 :: .ref q_490 :: .ref q_491 :: .ref q_492 :: .int 0 :: .int 0 :: .int 0 :: .int 0 :: .int 0 :: .int 0 :: .int (-1) :: .int 0 :: .ref q_493 :: .int 0 :: .int 0 :: .ref q_494 :: .int 0 :: .int 0 :: .ref q_495 :: .int 0 :: .int 0 :: .ref q_496 :: .ref q_497 :: .ref q_498 :: .ref q_499 :: .int 0 :: .int 0 :: .ref q_500 :: .ref q_501 :: .ref q_502 :: .ref q_503 :: .ref q_504 :: .int 0 :: .ref q_505 :: .ref q_506 :: .int 0 :: .int 0 :: .ref q_507 :: .ref q_508 :: .ref q_509 :: .ref q_510 :: .ref q_511 :: .int (-1) :: .ref q_512 :: .ref q_513 :: .ref q_514 :: .ref q_515 :: .ref q_516 :: .ref q_517 :: .ref q_518 :: []), zi G q_497 49 (fun _ => 0), zz G q_501 3 (fun _ => 0), zi G q_493 4 (upd (upd (upd (upd (fun _ => 0) 0 1) 1 1) 2 5) 3 13)]) (wr := [zb G q_459 2000 (fun _ => 0), zo q_447 2 [.int 0, .int 0, .int 0, .int 0, .int 0, .int 0], zo q_448 4 [.int 0, .int 0, .ref q_463], zi G q_464 16 (fun _ => 0), zo q_450 0 [.ref q_465, .int 0], zi G q_465 16 (fun _ => 0), zc G q_451 3 (va_up (va_up (va_up (fun _ => none) 0 (some q_468)) 1 (some q_467)) 2 (some q_466)), zc G q_469 40 g_483, zo q_470 0 [.ref q_471, .int 0], zi G q_471 16 (fun _ => 0), zo q_454 1 [.ref q_472, .ref q_473, .ref q_474], zi G q_472 64 (fun _ => 0), zo q_473 0 [.ref q_475, .int 0], zi G q_475 384 (fun _ => 0), zo q_474 0 [.ref q_476, .int 0], zo q_456 8 [.int 0, .int 0, .int 0, .int 0, .int 0, .int 0, .ref q_479], zo q_468 0 [.ref q_480, .int 0], zi G q_480 16 (fun _ => 0), zo q_467 0 [.ref q_481, .int 0], zi G q_481 16 (fun _ => 0), zo q_466 0 [.ref q_482, .int 0], zi G q_482 16 (fun _ => 0), zb G q_486 2000 (fun _ => 0), zi G q_488 403 (fun _ => 0), zi G q_489 403 (fun _ => 0), zi G q_490 403 (fun _ => 0), zj G q_491 403 (fun _ => 0), zi G q_494 8 (fun _ => 0), zi G q_495 4 (fun _ => 0), zi G q_496 8 (fun _ => 0), zi G q_498 49 (fun _ => 0), zi G q_499 1960 (fun _ => 0), zi G q_500 147 (fun _ => 0), zi G q_502 64 (fun _ => 0), zi G q_504 49 (fun _ => 0), zi G q_512 40320 (fun _ => 0), zi G q_513 40320 (fun _ => 0), zi G q_514 8 (fun _ => 0), zi G q_515 8 (fun _ => 0), zi G q_517 16 (fun _ => 0)]) [22, 32, 36, 28] [0, 1, 2, 3, 4, 5, 6, 7, 8, 9, 10, 11, 12, 13, 14, 15, 16, 17, 18, 19, 20, 21, 23, 24, 25, 26, 27, 29, 30, 31, 33, 34, 35, 37, 38, 39, 40, 41, 42, 43] rfl rfl (by decide) (by decide) (z_runV E B (As := [.int y1]) (rest := [.int 0]) [22, 32, 36, 28] rfl (by decide) mv_X12_count t_1724 0 (ci := 10) rfl rfl rfl (c_X12_count_232 l G _ q_485 q_497 q_501 q_493 q_486 q_487 q_488 q_489 q_490 q_491 q_492 q_494 q_495 q_496 q_498 q_499 q_500 q_502 q_503 q_504 q_505 q_506 q_507 q_508 q_509 q_510 q_511 q_512 q_513 q_514 q_515 q_516 q_517 q_518 y1) rfl rfl ⟨Nat.le_of_ble_eq_true rfl, Nat.le_of_ble_eq_true rfl⟩ rfl hl.1 rfl (Nat.le_of_ble_eq_true rfl) dL_law_958 ⟨(Nat.le_of_ble_eq_true rfl), (Nat.le_of_ble_eq_true rfl)⟩) (fun r t H locs hp hB J => ?_)
    have B := J _ hB
    have B : zB G A s.heap [zb G q_459 2000 (fun _ => 0), zo q_447 2 [.int 0, .int 0, .int 0, .int 0, .int 0, .int 0], zo q_448 4 [.int 0, .int 0, .ref q_463], zi G q_464 16 (fun _ => 0), zo q_450 0 [.ref q_465, .int 0], zi G q_465 16 (fun _ => 0), zc G q_451 3 (va_up (va_up (va_up (fun _ => none) 0 (some q_468)) 1 (some q_467)) 2 (some q_466)), zc G q_469 40 g_483, zo q_470 0 [.ref q_471, .int 0], zi G q_471 16 (fun _ => 0), zo q_454 1 [.ref q_472, .ref q_473, .ref q_474], zi G q_472 64 (fun _ => 0), zo q_473 0 [.ref q_475, .int 0], zi G q_475 384 (fun _ => 0), zo q_474 0 [.ref q_476, .int 0], zo q_456 8 [.int 0, .int 0, .int 0, .int 0, .int 0, .int 0, .ref q_479], zo q_468 0 [.ref q_480, .int 0], zi G q_480 16 (fun _ => 0), zo q_467 0 [.ref q_481, .int 0], zi G q_481 16 (fun _ => 0), zo q_466 0 [.ref q_482, .int 0], zi G q_482 16 (fun _ => 0), zb G q_486 2000 (fun _ => 0), zi G q_488 403 (fun _ => 0), zi G q_489 403 (fun _ => 0), zi G q_490 403 (fun _ => 0), zj G q_491 403 (fun _ => 0), zi G q_494 8 (fun _ => 0), zi G q_495 4 (fun _ => 0), zi G q_496 8 (fun _ => 0), zi G q_498 49 (fun _ => 0), zi G q_499 1960 (fun _ => 0), zi G q_500 147 (fun _ => 0), zi G q_502 64 (fun _ => 0), zi G q_504 49 (fun _ => 0), zi G q_512 40320 (fun _ => 0), zi G q_513 40320 (fun _ => 0), zi G q_514 8 (fun _ => 0), zi G q_515 8 (fun _ => 0), zi G q_517 16 (fun _ => 0)] _ _ := B
    rcases hp with ⟨c_829, rfl⟩ | ⟨c_830, rfl⟩ | ⟨c_831, rfl⟩ | ⟨c_832, rfl⟩ | ⟨c_833, rfl⟩ | ⟨c_834, rfl⟩ | ⟨c_835, rfl⟩ | ⟨c_836, rfl⟩ | ⟨c_837, rfl⟩ | ⟨c_838, rfl⟩ | ⟨c_839, rfl⟩ | ⟨c_840, rfl⟩ | ⟨c_841, rfl⟩ | ⟨c_842, rfl⟩ | ⟨c_843, rfl⟩ | ⟨c_844, rfl⟩ | ⟨c_845, rfl⟩ | ⟨c_846, rfl⟩ | ⟨c_847, rfl⟩
    · exfalso; omega
    · exfalso; omega
    · exfalso; omega
    · exfalso; omega
    · exfalso; omega
    · exfalso; omega
    · exfalso; omega
    · exfalso; omega
    · exfalso; omega
    · exfalso; omega
    · skip
      refine lv_icmp_eq (tgt := 966) E.x E.b dL_law_961 (by decide) (fun _ => ?_) (fun c => absurd (by decide +kernel) c)
      refine lv_iinc (v := 6) (lv' := [(3, .int 6), (2, .ref q_485), (1, .ref q_445), (0, .ref b)]) E.x E.b dL_law_966 hl (k := 0) rfl (by decide +kernel) (by decide) rfl (fun ls hl => ?_)
      refine lv_goto (tgt := 18) E.x E.b dL_law_969 (by decide) ?_
      refine lv_iload_n E.x E.b dL_law_18 rfl (lv_at hl 0 rfl) ?_
      refine lv_aload_n E.x E.b dL_law_19 rfl (lv_at hl 3 rfl) ?_
      refine va_slen E.x E.b hX hbl hbA B.2.2 dL_law_20 (z_topi 6 rfl ?_)
      refine lv_bipush (v := 6) E.x E.b dL_law_21 (by decide) ?_
      refine lv_isub E.x E.b dL_law_23 (z_topi 0 (by decide +kernel) ?_)
      refine lv_icmp_gt (tgt := 972) E.x E.b dL_law_24 (by decide) (fun _ => ?_) (fun c => absurd (by decide +kernel) c)
      refine lv_iconst (v := 1) E.x E.b dL_law_972 (by decide) ?_
      refine va_forget (fun q hq => hAe _ (B.2.2.2.2 q hq)) ?_
      refine W.widen (k := 600000) (n := 7302249) (Nat.le_of_ble_eq_true rfl) (Nat.le_of_ble_eq_true rfl) ?_
      exact lw_ret E.x E.b hr hlocks dL_law_973
    · exfalso; omega
    · exfalso; omega
    · exfalso; omega
    · exfalso; omega
    · exfalso; omega
    · exfalso; omega
    · exfalso; omega
    · exfalso; omega
  · skip
    refine lv_aload_n E.x E.b dL_law_952 rfl (lv_at hl 1 rfl) ?_
    refine lv_aload_n E.x E.b dL_law_953 rfl (lv_at hl 3 rfl) ?_
    refine lv_iload_n E.x E.b dL_law_954 rfl (lv_at hl 0 rfl) ?_
    refine lv_iconst (v := 1) E.x E.b dL_law_955 (by decide) ?_
    refine lv_iadd E.x E.b dL_law_956 (z_topi 1 (by decide +kernel) ?_)
    refine va_sld E.x E.b hX hbl hbA B.2.2 (show ¬ ((1 : Int32) < 0 ∨ 6 ≤ (1 : Int32).toNatClampNeg) by decide +kernel) dL_law_957 (z_topi y1 hy1.symm ?_)
    refine z_calli E B (wc := [zo q_485 10 (.int 0 :: .ref q_486 :: .int 0 :: .ref q_487 :: .int 0 :: .ref q_488 :: .ref q_489 :: .ref q_490 :: .ref q_491 :: .ref q_492 :: .int 0 :: .int 0 :: .int 0 :: .int 0 :: .int 0 :: .int 0 :: .int (-1) :: .int 0 :: .ref q_493 :: .int 0 :: .int 0 :: .ref q_494 :: .int 0 :: .int 0 :: .ref q_495 :: .int 0 :: .int 0 :: .ref q_496 :: .ref q_497 :: .ref q_498 :: .ref q_499 :: .int 0 :: .int 0 :: .ref q_500 :: .ref q_501 :: .ref q_502 :: .ref q_503 :: .ref q_504 :: .int 0 :: .ref q_505 :: .ref q_506 :: .int 0 :: .int 0 :: .ref q_507 :: .ref q_508 :: .ref q_509 :: .ref q_510 :: .ref q_511 :: .int (-1) :: .ref q_512 :: .ref q_513 :: .ref q_514 :: .ref q_515 :: .ref q_516 :: .ref q_517 :: .ref q_518 :: []), zi G q_497 49 (fun _ => 0), zz G q_501 3 (fun _ => 0), zi G q_493 4 (upd (upd (upd (upd (fun _ => 0) 0 1) 1 1) 2 5) 3 13)]) (wr := [zb G q_459 2000 (fun _ => 0), zo q_447 2 [.int 0, .int 0, .int 0, .int 0, .int 0, .int 0], zo q_448 4 [.int 0, .int 0, .ref q_463], zi G q_464 16 (fun _ => 0), zo q_450 0 [.ref q_465, .int 0], zi G q_465 16 (fun _ => 0), zc G q_451 3 (va_up (va_up (va_up (fun _ => none) 0 (some q_468)) 1 (some q_467)) 2 (some q_466)), zc G q_469 40 g_483, zo q_470 0 [.ref q_471, .int 0], zi G q_471 16 (fun _ => 0), zo q_454 1 [.ref q_472, .ref q_473, .ref q_474], zi G q_472 64 (fun _ => 0), zo q_473 0 [.ref q_475, .int 0], zi G q_475 384 (fun _ => 0), zo q_474 0 [.ref q_476, .int 0], zo q_456 8 [.int 0, .int 0, .int 0, .int 0, .int 0, .int 0, .ref q_479], zo q_468 0 [.ref q_480, .int 0], zi G q_480 16 (fun _ => 0), zo q_467 0 [.ref q_481, .int 0], zi G q_481 16 (fun _ => 0), zo q_466 0 [.ref q_482, .int 0], zi G q_482 16 (fun _ => 0), zb G q_486 2000 (fun _ => 0), zi G q_488 403 (fun _ => 0), zi G q_489 403 (fun _ => 0), zi G q_490 403 (fun _ => 0), zj G q_491 403 (fun _ => 0), zi G q_494 8 (fun _ => 0), zi G q_495 4 (fun _ => 0), zi G q_496 8 (fun _ => 0), zi G q_498 49 (fun _ => 0), zi G q_499 1960 (fun _ => 0), zi G q_500 147 (fun _ => 0), zi G q_502 64 (fun _ => 0), zi G q_504 49 (fun _ => 0), zi G q_512 40320 (fun _ => 0), zi G q_513 40320 (fun _ => 0), zi G q_514 8 (fun _ => 0), zi G q_515 8 (fun _ => 0), zi G q_517 16 (fun _ => 0)]) [22, 32, 36, 28] [0, 1, 2, 3, 4, 5, 6, 7, 8, 9, 10, 11, 12, 13, 14, 15, 16, 17, 18, 19, 20, 21, 23, 24, 25, 26, 27, 29, 30, 31, 33, 34, 35, 37, 38, 39, 40, 41, 42, 43] rfl rfl (by decide) (by decide) (z_runV E B (As := [.int y1]) (rest := [.int 0]) [22, 32, 36, 28] rfl (by decide) mv_X12_count t_1724 0 (ci := 10) rfl rfl rfl (c_X12_count_232 l G _ q_485 q_497 q_501 q_493 q_486 q_487 q_488 q_489 q_490 q_491 q_492 q_494 q_495 q_496 q_498 q_499 q_500 q_502 q_503 q_504 q_505 q_506 q_507 q_508 q_509 q_510 q_511 q_512 q_513 q_514 q_515 q_516 q_517 q_518 y1) rfl rfl ⟨Nat.le_of_ble_eq_true rfl, Nat.le_of_ble_eq_true rfl⟩ rfl hl.1 rfl (Nat.le_of_ble_eq_true rfl) dL_law_958 ⟨(Nat.le_of_ble_eq_true rfl), (Nat.le_of_ble_eq_true rfl)⟩) (fun r t H locs hp hB J => ?_)
    have B := J _ hB
    have B : zB G A s.heap [zb G q_459 2000 (fun _ => 0), zo q_447 2 [.int 0, .int 0, .int 0, .int 0, .int 0, .int 0], zo q_448 4 [.int 0, .int 0, .ref q_463], zi G q_464 16 (fun _ => 0), zo q_450 0 [.ref q_465, .int 0], zi G q_465 16 (fun _ => 0), zc G q_451 3 (va_up (va_up (va_up (fun _ => none) 0 (some q_468)) 1 (some q_467)) 2 (some q_466)), zc G q_469 40 g_483, zo q_470 0 [.ref q_471, .int 0], zi G q_471 16 (fun _ => 0), zo q_454 1 [.ref q_472, .ref q_473, .ref q_474], zi G q_472 64 (fun _ => 0), zo q_473 0 [.ref q_475, .int 0], zi G q_475 384 (fun _ => 0), zo q_474 0 [.ref q_476, .int 0], zo q_456 8 [.int 0, .int 0, .int 0, .int 0, .int 0, .int 0, .ref q_479], zo q_468 0 [.ref q_480, .int 0], zi G q_480 16 (fun _ => 0), zo q_467 0 [.ref q_481, .int 0], zi G q_481 16 (fun _ => 0), zo q_466 0 [.ref q_482, .int 0], zi G q_482 16 (fun _ => 0), zb G q_486 2000 (fun _ => 0), zi G q_488 403 (fun _ => 0), zi G q_489 403 (fun _ => 0), zi G q_490 403 (fun _ => 0), zj G q_491 403 (fun _ => 0), zi G q_494 8 (fun _ => 0), zi G q_495 4 (fun _ => 0), zi G q_496 8 (fun _ => 0), zi G q_498 49 (fun _ => 0), zi G q_499 1960 (fun _ => 0), zi G q_500 147 (fun _ => 0), zi G q_502 64 (fun _ => 0), zi G q_504 49 (fun _ => 0), zi G q_512 40320 (fun _ => 0), zi G q_513 40320 (fun _ => 0), zi G q_514 8 (fun _ => 0), zi G q_515 8 (fun _ => 0), zi G q_517 16 (fun _ => 0)] _ _ := B
    rcases hp with ⟨c_848, rfl⟩ | ⟨c_849, rfl⟩ | ⟨c_850, rfl⟩ | ⟨c_851, rfl⟩ | ⟨c_852, rfl⟩ | ⟨c_853, rfl⟩ | ⟨c_854, rfl⟩ | ⟨c_855, rfl⟩ | ⟨c_856, rfl⟩ | ⟨c_857, rfl⟩ | ⟨c_858, rfl⟩ | ⟨c_859, rfl⟩ | ⟨c_860, rfl⟩ | ⟨c_861, rfl⟩ | ⟨c_862, rfl⟩ | ⟨c_863, rfl⟩ | ⟨c_864, rfl⟩ | ⟨c_865, rfl⟩ | ⟨c_866, rfl⟩
    · exfalso; omega
    · exfalso; omega
    · exfalso; omega
    · exfalso; omega
    · exfalso; omega
    · exfalso; omega
    · exfalso; omega
    · exfalso; omega
    · exfalso; omega
    · exfalso; omega
    · exfalso; omega
    · skip
      refine lv_icmp_eq (tgt := 966) E.x E.b dL_law_961 (by decide) (fun _ => ?_) (fun c => absurd (by decide +kernel) c)
      refine lv_iinc (v := 6) (lv' := [(3, .int 6), (2, .ref q_485), (1, .ref q_445), (0, .ref b)]) E.x E.b dL_law_966 hl (k := 0) rfl (by decide +kernel) (by decide) rfl (fun ls hl => ?_)
      refine lv_goto (tgt := 18) E.x E.b dL_law_969 (by decide) ?_
      refine lv_iload_n E.x E.b dL_law_18 rfl (lv_at hl 0 rfl) ?_
      refine lv_aload_n E.x E.b dL_law_19 rfl (lv_at hl 3 rfl) ?_
      refine va_slen E.x E.b hX hbl hbA B.2.2 dL_law_20 (z_topi 6 rfl ?_)
      refine lv_bipush (v := 6) E.x E.b dL_law_21 (by decide) ?_
      refine lv_isub E.x E.b dL_law_23 (z_topi 0 (by decide +kernel) ?_)
      refine lv_icmp_gt (tgt := 972) E.x E.b dL_law_24 (by decide) (fun _ => ?_) (fun c => absurd (by decide +kernel) c)
      refine lv_iconst (v := 1) E.x E.b dL_law_972 (by decide) ?_
      refine va_forget (fun q hq => hAe _ (B.2.2.2.2 q hq)) ?_
      refine W.widen (k := 600000) (n := 7302249) (Nat.le_of_ble_eq_true rfl) (Nat.le_of_ble_eq_true rfl) ?_
      exact lw_ret E.x E.b hr hlocks dL_law_973
    · exfalso; omega
    · exfalso; omega
    · exfalso; omega
    · exfalso; omega
    · exfalso; omega
    · exfalso; omega
    · exfalso; omega
  · skip
    refine lv_aload_n E.x E.b dL_law_952 rfl (lv_at hl 1 rfl) ?_
    refine lv_aload_n E.x E.b dL_law_953 rfl (lv_at hl 3 rfl) ?_
    refine lv_iload_n E.x E.b dL_law_954 rfl (lv_at hl 0 rfl) ?_
    refine lv_iconst (v := 1) E.x E.b dL_law_955 (by decide) ?_
    refine lv_iadd E.x E.b dL_law_956 (z_topi 1 (by decide +kernel) ?_)
    refine va_sld E.x E.b hX hbl hbA B.2.2 (show ¬ ((1 : Int32) < 0 ∨ 6 ≤ (1 : Int32).toNatClampNeg) by decide +kernel) dL_law_957 (z_topi y1 hy1.symm ?_)
    refine z_calli E B (wc := [zo q_485 10 (.int 0 :: .ref q_486 :: .int 0 :: .ref q_487 :: .int 0 :: .ref q_488 :: .ref q_489 :: .ref q_490 :: .ref q_491 :: .ref q_492 :: .int 0 :: .int 0 :: .int 0 :: .int 0 :: .int 0 :: .int 0 :: .int (-1) :: .int 0 :: .ref q_493 :: .int 0 :: .int 0 :: .ref q_494 :: .int 0 :: .int 0 :: .ref q_495 :: .int 0 :: .int 0 :: .ref q_496 :: .ref q_497 :: .ref q_498 :: .ref q_499 :: .int 0 :: .int 0 :: .ref q_500 :: .ref q_501 :: .ref q_502 :: .ref q_503 :: .ref q_504 :: .int 0 :: .ref q_505 :: .ref q_506 :: .int 0 :: .int 0 :: .ref q_507 :: .ref q_508 :: .ref q_509 :: .ref q_510 :: .ref q_511 :: .int (-1) :: .ref q_512 :: .ref q_513 :: .ref q_514 :: .ref q_515 :: .ref q_516 :: .ref q_517 :: .ref q_518 :: []), zi G q_497 49 (fun _ => 0), zz G q_501 3 (fun _ => 0), zi G q_493 4 (upd (upd (upd (upd (fun _ => 0) 0 1) 1 1) 2 5) 3 13)]) (wr := [zb G q_459 2000 (fun _ => 0), zo q_447 2 [.int 0, .int 0, .int 0, .int 0, .int 0, .int 0], zo q_448 4 [.int 0, .int 0, .ref q_463], zi G q_464 16 (fun _ => 0), zo q_450 0 [.ref q_465, .int 0], zi G q_465 16 (fun _ => 0), zc G q_451 3 (va_up (va_up (va_up (fun _ => none) 0 (some q_468)) 1 (some q_467)) 2 (some q_466)), zc G q_469 40 g_483, zo q_470 0 [.ref q_471, .int 0], zi G q_471 16 (fun _ => 0), zo q_454 1 [.ref q_472, .ref q_473, .ref q_474], zi G q_472 64 (fun _ => 0), zo q_473 0 [.ref q_475, .int 0], zi G q_475 384 (fun _ => 0), zo q_474 0 [.ref q_476, .int 0], zo q_456 8 [.int 0, .int 0, .int 0, .int 0, .int 0, .int 0, .ref q_479], zo q_468 0 [.ref q_480, .int 0], zi G q_480 16 (fun _ => 0), zo q_467 0 [.ref q_481, .int 0], zi G q_481 16 (fun _ => 0), zo q_466 0 [.ref q_482, .int 0], zi G q_482 16 (fun _ => 0), zb G q_486 2000 (fun _ => 0), zi G q_488 403 (fun _ => 0), zi G q_489 403 (fun _ => 0), zi G q_490 403 (fun _ => 0), zj G q_491 403 (fun _ => 0), zi G q_494 8 (fun _ => 0), zi G q_495 4 (fun _ => 0), zi G q_496 8 (fun _ => 0), zi G q_498 49 (fun _ => 0), zi G q_499 1960 (fun _ => 0), zi G q_500 147 (fun _ => 0), zi G q_502 64 (fun _ => 0), zi G q_504 49 (fun _ => 0), zi G q_512 40320 (fun _ => 0), zi G q_513 40320 (fun _ => 0), zi G q_514 8 (fun _ => 0), zi G q_515 8 (fun _ => 0), zi G q_517 16 (fun _ => 0)]) [22, 32, 36, 28] [0, 1, 2, 3, 4, 5, 6, 7, 8, 9, 10, 11, 12, 13, 14, 15, 16, 17, 18, 19, 20, 21, 23, 24, 25, 26, 27, 29, 30, 31, 33, 34, 35, 37, 38, 39, 40, 41, 42, 43] rfl rfl (by decide) (by decide) (z_runV E B (As := [.int y1]) (rest := [.int 0]) [22, 32, 36, 28] rfl (by decide) mv_X12_count t_1724 0 (ci := 10) rfl rfl rfl (c_X12_count_232 l G _ q_485 q_497 q_501 q_493 q_486 q_487 q_488 q_489 q_490 q_491 q_492 q_494 q_495 q_496 q_498 q_499 q_500 q_502 q_503 q_504 q_505 q_506 q_507 q_508 q_509 q_510 q_511 q_512 q_513 q_514 q_515 q_516 q_517 q_518 y1) rfl rfl ⟨Nat.le_of_ble_eq_true rfl, Nat.le_of_ble_eq_true rfl⟩ rfl hl.1 rfl (Nat.le_of_ble_eq_true rfl) dL_law_958 ⟨(Nat.le_of_ble_eq_true rfl), (Nat.le_of_ble_eq_true rfl)⟩) (fun r t H locs hp hB J => ?_)
    have B := J _ hB
    have B : zB G A s.heap [zb G q_459 2000 (fun _ => 0), zo q_447 2 [.int 0, .int 0, .int 0, .int 0, .int 0, .int 0], zo q_448 4 [.int 0, .int 0, .ref q_463], zi G q_464 16 (fun _ => 0), zo q_450 0 [.ref q_465, .int 0], zi G q_465 16 (fun _ => 0), zc G q_451 3 (va_up (va_up (va_up (fun _ => none) 0 (some q_468)) 1 (some q_467)) 2 (some q_466)), zc G q_469 40 g_483, zo q_470 0 [.ref q_471, .int 0], zi G q_471 16 (fun _ => 0), zo q_454 1 [.ref q_472, .ref q_473, .ref q_474], zi G q_472 64 (fun _ => 0), zo q_473 0 [.ref q_475, .int 0], zi G q_475 384 (fun _ => 0), zo q_474 0 [.ref q_476, .int 0], zo q_456 8 [.int 0, .int 0, .int 0, .int 0, .int 0, .int 0, .ref q_479], zo q_468 0 [.ref q_480, .int 0], zi G q_480 16 (fun _ => 0), zo q_467 0 [.ref q_481, .int 0], zi G q_481 16 (fun _ => 0), zo q_466 0 [.ref q_482, .int 0], zi G q_482 16 (fun _ => 0), zb G q_486 2000 (fun _ => 0), zi G q_488 403 (fun _ => 0), zi G q_489 403 (fun _ => 0), zi G q_490 403 (fun _ => 0), zj G q_491 403 (fun _ => 0), zi G q_494 8 (fun _ => 0), zi G q_495 4 (fun _ => 0), zi G q_496 8 (fun _ => 0), zi G q_498 49 (fun _ => 0), zi G q_499 1960 (fun _ => 0), zi G q_500 147 (fun _ => 0), zi G q_502 64 (fun _ => 0), zi G q_504 49 (fun _ => 0), zi G q_512 40320 (fun _ => 0), zi G q_513 40320 (fun _ => 0), zi G q_514 8 (fun _ => 0), zi G q_515 8 (fun _ => 0), zi G q_517 16 (fun _ => 0)] _ _ := B
    rcases hp with ⟨c_867, rfl⟩ | ⟨c_868, rfl⟩ | ⟨c_869, rfl⟩ | ⟨c_870, rfl⟩ | ⟨c_871, rfl⟩ | ⟨c_872, rfl⟩ | ⟨c_873, rfl⟩ | ⟨c_874, rfl⟩ | ⟨c_875, rfl⟩ | ⟨c_876, rfl⟩ | ⟨c_877, rfl⟩ | ⟨c_878, rfl⟩ | ⟨c_879, rfl⟩ | ⟨c_880, rfl⟩ | ⟨c_881, rfl⟩ | ⟨c_882, rfl⟩ | ⟨c_883, rfl⟩ | ⟨c_884, rfl⟩ | ⟨c_885, rfl⟩
    · exfalso; omega
    · exfalso; omega
    · exfalso; omega
    · exfalso; omega
    · exfalso; omega
    · exfalso; omega
    · exfalso; omega
    · exfalso; omega
    · exfalso; omega
    · exfalso; omega
    · exfalso; omega
    · exfalso; omega
    · skip
      refine lv_icmp_eq (tgt := 966) E.x E.b dL_law_961 (by decide) (fun _ => ?_) (fun c => absurd (by decide +kernel) c)
      refine lv_iinc (v := 6) (lv' := [(3, .int 6), (2, .ref q_485), (1, .ref q_445), (0, .ref b)]) E.x E.b dL_law_966 hl (k := 0) rfl (by decide +kernel) (by decide) rfl (fun ls hl => ?_)
      refine lv_goto (tgt := 18) E.x E.b dL_law_969 (by decide) ?_
      refine lv_iload_n E.x E.b dL_law_18 rfl (lv_at hl 0 rfl) ?_
      refine lv_aload_n E.x E.b dL_law_19 rfl (lv_at hl 3 rfl) ?_
      refine va_slen E.x E.b hX hbl hbA B.2.2 dL_law_20 (z_topi 6 rfl ?_)
      refine lv_bipush (v := 6) E.x E.b dL_law_21 (by decide) ?_
      refine lv_isub E.x E.b dL_law_23 (z_topi 0 (by decide +kernel) ?_)
      refine lv_icmp_gt (tgt := 972) E.x E.b dL_law_24 (by decide) (fun _ => ?_) (fun c => absurd (by decide +kernel) c)
      refine lv_iconst (v := 1) E.x E.b dL_law_972 (by decide) ?_
      refine va_forget (fun q hq => hAe _ (B.2.2.2.2 q hq)) ?_
      refine W.widen (k := 600000) (n := 7302249) (Nat.le_of_ble_eq_true rfl) (Nat.le_of_ble_eq_true rfl) ?_
      exact lw_ret E.x E.b hr hlocks dL_law_973
    · exfalso; omega
    · exfalso; omega
    · exfalso; omega
    · exfalso; omega
    · exfalso; omega
    · exfalso; omega
  · skip
    refine lv_aload_n E.x E.b dL_law_952 rfl (lv_at hl 1 rfl) ?_
    refine lv_aload_n E.x E.b dL_law_953 rfl (lv_at hl 3 rfl) ?_
    refine lv_iload_n E.x E.b dL_law_954 rfl (lv_at hl 0 rfl) ?_
    refine lv_iconst (v := 1) E.x E.b dL_law_955 (by decide) ?_
    refine lv_iadd E.x E.b dL_law_956 (z_topi 1 (by decide +kernel) ?_)
    refine va_sld E.x E.b hX hbl hbA B.2.2 (show ¬ ((1 : Int32) < 0 ∨ 6 ≤ (1 : Int32).toNatClampNeg) by decide +kernel) dL_law_957 (z_topi y1 hy1.symm ?_)
    refine z_calli E B (wc := [zo q_485 10 (.int 0 :: .ref q_486 :: .int 0 :: .ref q_487 :: .int 0 :: .ref q_488 :: .ref q_489 :: .ref q_490 :: .ref q_491 :: .ref q_492 :: .int 0 :: .int 0 :: .int 0 :: .int 0 :: .int 0 :: .int 0 :: .int (-1) :: .int 0 :: .ref q_493 :: .int 0 :: .int 0 :: .ref q_494 :: .int 0 :: .int 0 :: .ref q_495 :: .int 0 :: .int 0 :: .ref q_496 :: .ref q_497 :: .ref q_498 :: .ref q_499 :: .int 0 :: .int 0 :: .ref q_500 :: .ref q_501 :: .ref q_502 :: .ref q_503 :: .ref q_504 :: .int 0 :: .ref q_505 :: .ref q_506 :: .int 0 :: .int 0 :: .ref q_507 :: .ref q_508 :: .ref q_509 :: .ref q_510 :: .ref q_511 :: .int (-1) :: .ref q_512 :: .ref q_513 :: .ref q_514 :: .ref q_515 :: .ref q_516 :: .ref q_517 :: .ref q_518 :: []), zi G q_497 49 (fun _ => 0), zz G q_501 3 (fun _ => 0), zi G q_493 4 (upd (upd (upd (upd (fun _ => 0) 0 1) 1 1) 2 5) 3 13)]) (wr := [zb G q_459 2000 (fun _ => 0), zo q_447 2 [.int 0, .int 0, .int 0, .int 0, .int 0, .int 0], zo q_448 4 [.int 0, .int 0, .ref q_463], zi G q_464 16 (fun _ => 0), zo q_450 0 [.ref q_465, .int 0], zi G q_465 16 (fun _ => 0), zc G q_451 3 (va_up (va_up (va_up (fun _ => none) 0 (some q_468)) 1 (some q_467)) 2 (some q_466)), zc G q_469 40 g_483, zo q_470 0 [.ref q_471, .int 0], zi G q_471 16 (fun _ => 0), zo q_454 1 [.ref q_472, .ref q_473, .ref q_474], zi G q_472 64 (fun _ => 0), zo q_473 0 [.ref q_475, .int 0], zi G q_475 384 (fun _ => 0), zo q_474 0 [.ref q_476, .int 0], zo q_456 8 [.int 0, .int 0, .int 0, .int 0, .int 0, .int 0, .ref q_479], zo q_468 0 [.ref q_480, .int 0], zi G q_480 16 (fun _ => 0), zo q_467 0 [.ref q_481, .int 0], zi G q_481 16 (fun _ => 0), zo q_466 0 [.ref q_482, .int 0], zi G q_482 16 (fun _ => 0), zb G q_486 2000 (fun _ => 0), zi G q_488 403 (fun _ => 0), zi G q_489 403 (fun _ => 0), zi G q_490 403 (fun _ => 0), zj G q_491 403 (fun _ => 0), zi G q_494 8 (fun _ => 0), zi G q_495 4 (fun _ => 0), zi G q_496 8 (fun _ => 0), zi G q_498 49 (fun _ => 0), zi G q_499 1960 (fun _ => 0), zi G q_500 147 (fun _ => 0), zi G q_502 64 (fun _ => 0), zi G q_504 49 (fun _ => 0), zi G q_512 40320 (fun _ => 0), zi G q_513 40320 (fun _ => 0), zi G q_514 8 (fun _ => 0), zi G q_515 8 (fun _ => 0), zi G q_517 16 (fun _ => 0)]) [22, 32, 36, 28] [0, 1, 2, 3, 4, 5, 6, 7, 8, 9, 10, 11, 12, 13, 14, 15, 16, 17, 18, 19, 20, 21, 23, 24, 25, 26, 27, 29, 30, 31, 33, 34, 35, 37, 38, 39, 40, 41, 42, 43] rfl rfl (by decide) (by decide) (z_runV E B (As := [.int y1]) (rest := [.int 0]) [22, 32, 36, 28] rfl (by decide) mv_X12_count t_1724 0 (ci := 10) rfl rfl rfl (c_X12_count_232 l G _ q_485 q_497 q_501 q_493 q_486 q_487 q_488 q_489 q_490 q_491 q_492 q_494 q_495 q_496 q_498 q_499 q_500 q_502 q_503 q_504 q_505 q_506 q_507 q_508 q_509 q_510 q_511 q_512 q_513 q_514 q_515 q_516 q_517 q_518 y1) rfl rfl ⟨Nat.le_of_ble_eq_true rfl, Nat.le_of_ble_eq_true rfl⟩ rfl hl.1 rfl (Nat.le_of_ble_eq_true rfl) dL_law_958 ⟨(Nat.le_of_ble_eq_true rfl), (Nat.le_of_ble_eq_true rfl)⟩) (fun r t H locs hp hB J => ?_)
    have B := J _ hB
    have B : zB G A s.heap [zb G q_459 2000 (fun _ => 0), zo q_447 2 [.int 0, .int 0, .int 0, .int 0, .int 0, .int 0], zo q_448 4 [.int 0, .int 0, .ref q_463], zi G q_464 16 (fun _ => 0), zo q_450 0 [.ref q_465, .int 0], zi G q_465 16 (fun _ => 0), zc G q_451 3 (va_up (va_up (va_up (fun _ => none) 0 (some q_468)) 1 (some q_467)) 2 (some q_466)), zc G q_469 40 g_483, zo q_470 0 [.ref q_471, .int 0], zi G q_471 16 (fun _ => 0), zo q_454 1 [.ref q_472, .ref q_473, .ref q_474], zi G q_472 64 (fun _ => 0), zo q_473 0 [.ref q_475, .int 0], zi G q_475 384 (fun _ => 0), zo q_474 0 [.ref q_476, .int 0], zo q_456 8 [.int 0, .int 0, .int 0, .int 0, .int 0, .int 0, .ref q_479], zo q_468 0 [.ref q_480, .int 0], zi G q_480 16 (fun _ => 0), zo q_467 0 [.ref q_481, .int 0], zi G q_481 16 (fun _ => 0), zo q_466 0 [.ref q_482, .int 0], zi G q_482 16 (fun _ => 0), zb G q_486 2000 (fun _ => 0), zi G q_488 403 (fun _ => 0), zi G q_489 403 (fun _ => 0), zi G q_490 403 (fun _ => 0), zj G q_491 403 (fun _ => 0), zi G q_494 8 (fun _ => 0), zi G q_495 4 (fun _ => 0), zi G q_496 8 (fun _ => 0), zi G q_498 49 (fun _ => 0), zi G q_499 1960 (fun _ => 0), zi G q_500 147 (fun _ => 0), zi G q_502 64 (fun _ => 0), zi G q_504 49 (fun _ => 0), zi G q_512 40320 (fun _ => 0), zi G q_513 40320 (fun _ => 0), zi G q_514 8 (fun _ => 0), zi G q_515 8 (fun _ => 0), zi G q_517 16 (fun _ => 0)] _ _ := B
    rcases hp with ⟨c_886, rfl⟩ | ⟨c_887, rfl⟩ | ⟨c_888, rfl⟩ | ⟨c_889, rfl⟩ | ⟨c_890, rfl⟩ | ⟨c_891, rfl⟩ | ⟨c_892, rfl⟩ | ⟨c_893, rfl⟩ | ⟨c_894, rfl⟩ | ⟨c_895, rfl⟩ | ⟨c_896, rfl⟩ | ⟨c_897, rfl⟩ | ⟨c_898, rfl⟩ | ⟨c_899, rfl⟩ | ⟨c_900, rfl⟩ | ⟨c_901, rfl⟩ | ⟨c_902, rfl⟩ | ⟨c_903, rfl⟩ | ⟨c_904, rfl⟩
    · exfalso; omega
    · exfalso; omega
    · exfalso; omega
    · exfalso; omega
    · exfalso; omega
    · exfalso; omega
    · exfalso; omega
    · exfalso; omega
    · exfalso; omega
    · exfalso; omega
    · exfalso; omega
    · exfalso; omega
    · exfalso; omega
    · skip
      refine lv_icmp_eq (tgt := 966) E.x E.b dL_law_961 (by decide) (fun _ => ?_) (fun c => absurd (by decide +kernel) c)
      refine lv_iinc (v := 6) (lv' := [(3, .int 6), (2, .ref q_485), (1, .ref q_445), (0, .ref b)]) E.x E.b dL_law_966 hl (k := 0) rfl (by decide +kernel) (by decide) rfl (fun ls hl => ?_)
      refine lv_goto (tgt := 18) E.x E.b dL_law_969 (by decide) ?_
      refine lv_iload_n E.x E.b dL_law_18 rfl (lv_at hl 0 rfl) ?_
      refine lv_aload_n E.x E.b dL_law_19 rfl (lv_at hl 3 rfl) ?_
      refine va_slen E.x E.b hX hbl hbA B.2.2 dL_law_20 (z_topi 6 rfl ?_)
      refine lv_bipush (v := 6) E.x E.b dL_law_21 (by decide) ?_
      refine lv_isub E.x E.b dL_law_23 (z_topi 0 (by decide +kernel) ?_)
      refine lv_icmp_gt (tgt := 972) E.x E.b dL_law_24 (by decide) (fun _ => ?_) (fun c => absurd (by decide +kernel) c)
      refine lv_iconst (v := 1) E.x E.b dL_law_972 (by decide) ?_
      refine va_forget (fun q hq => hAe _ (B.2.2.2.2 q hq)) ?_
      refine W.widen (k := 600000) (n := 7302249) (Nat.le_of_ble_eq_true rfl) (Nat.le_of_ble_eq_true rfl) ?_
      exact lw_ret E.x E.b hr hlocks dL_law_973
    · exfalso; omega
    · exfalso; omega
    · exfalso; omega
    · exfalso; omega
    · exfalso; omega
  · skip
    refine lv_aload_n E.x E.b dL_law_952 rfl (lv_at hl 1 rfl) ?_
    refine lv_aload_n E.x E.b dL_law_953 rfl (lv_at hl 3 rfl) ?_
    refine lv_iload_n E.x E.b dL_law_954 rfl (lv_at hl 0 rfl) ?_
    refine lv_iconst (v := 1) E.x E.b dL_law_955 (by decide) ?_
    refine lv_iadd E.x E.b dL_law_956 (z_topi 1 (by decide +kernel) ?_)
    refine va_sld E.x E.b hX hbl hbA B.2.2 (show ¬ ((1 : Int32) < 0 ∨ 6 ≤ (1 : Int32).toNatClampNeg) by decide +kernel) dL_law_957 (z_topi y1 hy1.symm ?_)
    refine z_calli E B (wc := [zo q_485 10 (.int 0 :: .ref q_486 :: .int 0 :: .ref q_487 :: .int 0 :: .ref q_488 :: .ref q_489 :: .ref q_490 :: .ref q_491 :: .ref q_492 :: .int 0 :: .int 0 :: .int 0 :: .int 0 :: .int 0 :: .int 0 :: .int (-1) :: .int 0 :: .ref q_493 :: .int 0 :: .int 0 :: .ref q_494 :: .int 0 :: .int 0 :: .ref q_495 :: .int 0 :: .int 0 :: .ref q_496 :: .ref q_497 :: .ref q_498 :: .ref q_499 :: .int 0 :: .int 0 :: .ref q_500 :: .ref q_501 :: .ref q_502 :: .ref q_503 :: .ref q_504 :: .int 0 :: .ref q_505 :: .ref q_506 :: .int 0 :: .int 0 :: .ref q_507 :: .ref q_508 :: .ref q_509 :: .ref q_510 :: .ref q_511 :: .int (-1) :: .ref q_512 :: .ref q_513 :: .ref q_514 :: .ref q_515 :: .ref q_516 :: .ref q_517 :: .ref q_518 :: []), zi G q_497 49 (fun _ => 0), zz G q_501 3 (fun _ => 0), zi G q_493 4 (upd (upd (upd (upd (fun _ => 0) 0 1) 1 1) 2 5) 3 13)]) (wr := [zb G q_459 2000 (fun _ => 0), zo q_447 2 [.int 0, .int 0, .int 0, .int 0, .int 0, .int 0], zo q_448 4 [.int 0, .int 0, .ref q_463], zi G q_464 16 (fun _ => 0), zo q_450 0 [.ref q_465, .int 0], zi G q_465 16 (fun _ => 0), zc G q_451 3 (va_up (va_up (va_up (fun _ => none) 0 (some q_468)) 1 (some q_467)) 2 (some q_466)), zc G q_469 40 g_483, zo q_470 0 [.ref q_471, .int 0], zi G q_471 16 (fun _ => 0), zo q_454 1 [.ref q_472, .ref q_473, .ref q_474], zi G q_472 64 (fun _ => 0), zo q_473 0 [.ref q_475, .int 0], zi G q_475 384 (fun _ => 0), zo q_474 0 [.ref q_476, .int 0], zo q_456 8 [.int 0, .int 0, .int 0, .int 0, .int 0, .int 0, .ref q_479], zo q_468 0 [.ref q_480, .int 0], zi G q_480 16 (fun _ => 0), zo q_467 0 [.ref q_481, .int 0], zi G q_481 16 (fun _ => 0), zo q_466 0 [.ref q_482, .int 0], zi G q_482 16 (fun _ => 0), zb G q_486 2000 (fun _ => 0), zi G q_488 403 (fun _ => 0), zi G q_489 403 (fun _ => 0), zi G q_490 403 (fun _ => 0), zj G q_491 403 (fun _ => 0), zi G q_494 8 (fun _ => 0), zi G q_495 4 (fun _ => 0), zi G q_496 8 (fun _ => 0), zi G q_498 49 (fun _ => 0), zi G q_499 1960 (fun _ => 0), zi G q_500 147 (fun _ => 0), zi G q_502 64 (fun _ => 0), zi G q_504 49 (fun _ => 0), zi G q_512 40320 (fun _ => 0), zi G q_513 40320 (fun _ => 0), zi G q_514 8 (fun _ => 0), zi G q_515 8 (fun _ => 0), zi G q_517 16 (fun _ => 0)]) [22, 32, 36, 28] [0, 1, 2, 3, 4, 5, 6, 7, 8, 9, 10, 11, 12, 13, 14, 15, 16, 17, 18, 19, 20, 21, 23, 24, 25, 26, 27, 29, 30, 31, 33, 34, 35, 37, 38, 39, 40, 41, 42, 43] rfl rfl (by decide) (by decide) (z_runV E B (As := [.int y1]) (rest := [.int (-1)]) [22, 32, 36, 28] rfl (by decide) mv_X12_count t_1724 0 (ci := 10) rfl rfl rfl (c_X12_count_232 l G _ q_485 q_497 q_501 q_493 q_486 q_487 q_488 q_489 q_490 q_491 q_492 q_494 q_495 q_496 q_498 q_499 q_500 q_502 q_503 q_504 q_505 q_506 q_507 q_508 q_509 q_510 q_511 q_512 q_513 q_514 q_515 q_516 q_517 q_518 y1) rfl rfl ⟨Nat.le_of_ble_eq_true rfl, Nat.le_of_ble_eq_true rfl⟩ rfl hl.1 rfl (Nat.le_of_ble_eq_true rfl) dL_law_958 ⟨(Nat.le_of_ble_eq_true rfl), (Nat.le_of_ble_eq_true rfl)⟩) (fun r t H locs hp hB J => ?_)
    have B := J _ hB
    have B : zB G A s.heap [zb G q_459 2000 (fun _ => 0), zo q_447 2 [.int 0, .int 0, .int 0, .int 0, .int 0, .int 0], zo q_448 4 [.int 0, .int 0, .ref q_463], zi G q_464 16 (fun _ => 0), zo q_450 0 [.ref q_465, .int 0], zi G q_465 16 (fun _ => 0), zc G q_451 3 (va_up (va_up (va_up (fun _ => none) 0 (some q_468)) 1 (some q_467)) 2 (some q_466)), zc G q_469 40 g_483, zo q_470 0 [.ref q_471, .int 0], zi G q_471 16 (fun _ => 0), zo q_454 1 [.ref q_472, .ref q_473, .ref q_474], zi G q_472 64 (fun _ => 0), zo q_473 0 [.ref q_475, .int 0], zi G q_475 384 (fun _ => 0), zo q_474 0 [.ref q_476, .int 0], zo q_456 8 [.int 0, .int 0, .int 0, .int 0, .int 0, .int 0, .ref q_479], zo q_468 0 [.ref q_480, .int 0], zi G q_480 16 (fun _ => 0), zo q_467 0 [.ref q_481, .int 0], zi G q_481 16 (fun _ => 0), zo q_466 0 [.ref q_482, .int 0], zi G q_482 16 (fun _ => 0), zb G q_486 2000 (fun _ => 0), zi G q_488 403 (fun _ => 0), zi G q_489 403 (fun _ => 0), zi G q_490 403 (fun _ => 0), zj G q_491 403 (fun _ => 0), zi G q_494 8 (fun _ => 0), zi G q_495 4 (fun _ => 0), zi G q_496 8 (fun _ => 0), zi G q_498 49 (fun _ => 0), zi G q_499 1960 (fun _ => 0), zi G q_500 147 (fun _ => 0), zi G q_502 64 (fun _ => 0), zi G q_504 49 (fun _ => 0), zi G q_512 40320 (fun _ => 0), zi G q_513 40320 (fun _ => 0), zi G q_514 8 (fun _ => 0), zi G q_515 8 (fun _ => 0), zi G q_517 16 (fun _ => 0)] _ _ := B
    rcases hp with ⟨c_905, rfl⟩ | ⟨c_906, rfl⟩ | ⟨c_907, rfl⟩ | ⟨c_908, rfl⟩ | ⟨c_909, rfl⟩ | ⟨c_910, rfl⟩ | ⟨c_911, rfl⟩ | ⟨c_912, rfl⟩ | ⟨c_913, rfl⟩ | ⟨c_914, rfl⟩ | ⟨c_915, rfl⟩ | ⟨c_916, rfl⟩ | ⟨c_917, rfl⟩ | ⟨c_918, rfl⟩ | ⟨c_919, rfl⟩ | ⟨c_920, rfl⟩ | ⟨c_921, rfl⟩ | ⟨c_922, rfl⟩ | ⟨c_923, rfl⟩
    · exfalso; omega
    · exfalso; omega
    · exfalso; omega
    · exfalso; omega
    · exfalso; omega
    · exfalso; omega
    · exfalso; omega
    · exfalso; omega
    · exfalso; omega
    · skip
      refine lv_icmp_eq (tgt := 966) E.x E.b dL_law_961 (by decide) (fun _ => ?_) (fun c => absurd (by decide +kernel) c)
      refine lv_iinc (v := 6) (lv' := [(3, .int 6), (2, .ref q_485), (1, .ref q_445), (0, .ref b)]) E.x E.b dL_law_966 hl (k := 0) rfl (by decide +kernel) (by decide) rfl (fun ls hl => ?_)
      refine lv_goto (tgt := 18) E.x E.b dL_law_969 (by decide) ?_
      refine lv_iload_n E.x E.b dL_law_18 rfl (lv_at hl 0 rfl) ?_
      refine lv_aload_n E.x E.b dL_law_19 rfl (lv_at hl 3 rfl) ?_
      refine va_slen E.x E.b hX hbl hbA B.2.2 dL_law_20 (z_topi 6 rfl ?_)
      refine lv_bipush (v := 6) E.x E.b dL_law_21 (by decide) ?_
      refine lv_isub E.x E.b dL_law_23 (z_topi 0 (by decide +kernel) ?_)
      refine lv_icmp_gt (tgt := 972) E.x E.b dL_law_24 (by decide) (fun _ => ?_) (fun c => absurd (by decide +kernel) c)
      refine lv_iconst (v := 1) E.x E.b dL_law_972 (by decide) ?_
      refine va_forget (fun q hq => hAe _ (B.2.2.2.2 q hq)) ?_
      refine W.widen (k := 600000) (n := 7302249) (Nat.le_of_ble_eq_true rfl) (Nat.le_of_ble_eq_true rfl) ?_
      exact lw_ret E.x E.b hr hlocks dL_law_973
    · exfalso; omega
    · exfalso; omega
    · exfalso; omega
    · exfalso; omega
    · skip
      refine lv_icmp_eq (tgt := 966) E.x E.b dL_law_961 (by decide) (fun _ => ?_) (fun c => absurd (by decide +kernel) c)
      refine lv_iinc (v := 6) (lv' := [(3, .int 6), (2, .ref q_485), (1, .ref q_445), (0, .ref b)]) E.x E.b dL_law_966 hl (k := 0) rfl (by decide +kernel) (by decide) rfl (fun ls hl => ?_)
      refine lv_goto (tgt := 18) E.x E.b dL_law_969 (by decide) ?_
      refine lv_iload_n E.x E.b dL_law_18 rfl (lv_at hl 0 rfl) ?_
      refine lv_aload_n E.x E.b dL_law_19 rfl (lv_at hl 3 rfl) ?_
      refine va_slen E.x E.b hX hbl hbA B.2.2 dL_law_20 (z_topi 6 rfl ?_)
      refine lv_bipush (v := 6) E.x E.b dL_law_21 (by decide) ?_
      refine lv_isub E.x E.b dL_law_23 (z_topi 0 (by decide +kernel) ?_)
      refine lv_icmp_gt (tgt := 972) E.x E.b dL_law_24 (by decide) (fun _ => ?_) (fun c => absurd (by decide +kernel) c)
      refine lv_iconst (v := 1) E.x E.b dL_law_972 (by decide) ?_
      refine va_forget (fun q hq => hAe _ (B.2.2.2.2 q hq)) ?_
      refine W.widen (k := 600000) (n := 7302249) (Nat.le_of_ble_eq_true rfl) (Nat.le_of_ble_eq_true rfl) ?_
      exact lw_ret E.x E.b hr hlocks dL_law_973
    · exfalso; omega
    · exfalso; omega
    · exfalso; omega
    · exfalso; omega
