set_option maxHeartbeats 4000000 in
set_option maxRecDepth 100000 in
theorem c_X11_takeOver_55 (l : Launch) (G : zGT) (sz : Nat) (a0 a1 a2 a3 a4 a5 a6 a7 a8 a9 a10 a11 a12 a13 a14 a15 a16 a17 a18 a19 a20 a21 : Nat) : Met l yX11_takeOver (.code yX11_takeOver cX11_takeOver 2 none :: zT) ({ frames := 1, cells := 0, slots := 0, locals := 88 }) (va_Pc [.ref a0] (zPc G [zo a0 9 [.ref a3, .ref a8, .ref a1, .ref a2, .ref a9, .ref a10, .ref a7, .ref a6, .ref a11, .ref a12, .ref a5, .ref a4, .ref a13, .null, .int 0, .int (-1)], zo a1 4 [.int (-1), .int 0, .ref a14], zo a2 0 [.ref a15, .int 0], zo a3 6 [.ref a16, .ref a17, .ref a18, .ref a19, .int 0, .int 0, .int 1, .int 0, .int 0, .long 0], zi G a4 4 zPr, zo a5 8 [.int 0, .int 0, .int 0, .int 0, .int 0, .int 0, .ref a20], zo a6 3 [.ref a21, .int 0, .int 0], zz G a7 3 (fun _ => 0)] sz)) ((fun A => va_Qv (fun (_ : Unit) => True) (fun (_ : Unit) t => zQ G [zo a0 9 [.ref a3, .ref a8, .ref a1, .ref a2, .ref a9, .ref a10, .ref a7, .ref a6, .ref a11, .ref a12, .ref a5, .ref a4, .ref a13, .null, .int 0, .int (-1)], zo a1 4 [.int (-1), .int 0, .ref a14], zo a2 0 [.ref a15, .int 0], zo a3 6 [.ref a16, .ref a17, .ref a18, .ref a19, .int 0, .int 0, .int 1, .int 0, .int 0, .long 0], zi G a4 4 zPr, zo a5 8 [.int 0, .int 0, .int 0, .int 0, .int 0, .int 0, .ref a20], zo a6 3 [.ref a21, .int 0, .int 0], zz G a7 3 (fun _ => 0)] A t) A) (va_A [zo a0 9 [.ref a3, .ref a8, .ref a1, .ref a2, .ref a9, .ref a10, .ref a7, .ref a6, .ref a11, .ref a12, .ref a5, .ref a4, .ref a13, .null, .int 0, .int (-1)], zo a1 4 [.int (-1), .int 0, .ref a14], zo a2 0 [.ref a15, .int 0], zo a3 6 [.ref a16, .ref a17, .ref a18, .ref a19, .int 0, .int 0, .int 1, .int 0, .int 0, .long 0], zi G a4 4 zPr, zo a5 8 [.int 0, .int 0, .int 0, .int 0, .int 0, .int 0, .ref a20], zo a6 3 [.ref a21, .int 0, .int 0], zz G a7 3 (fun _ => 0)] sz)) 0 0 (va_A [zo a0 9 [.ref a3, .ref a8, .ref a1, .ref a2, .ref a9, .ref a10, .ref a7, .ref a6, .ref a11, .ref a12, .ref a5, .ref a4, .ref a13, .null, .int 0, .int (-1)], zo a1 4 [.int (-1), .int 0, .ref a14], zo a2 0 [.ref a15, .int 0], zo a3 6 [.ref a16, .ref a17, .ref a18, .ref a19, .int 0, .int 0, .int 1, .int 0, .int 0, .long 0], zi G a4 4 zPr, zo a5 8 [.int 0, .int 0, .int 0, .int 0, .int 0, .int 0, .ref a20], zo a6 3 [.ref a21, .int 0, .int 0], zz G a7 3 (fun _ => 0)] sz) := by
  refine z_start (QA := (fun A => va_Qv (fun (_ : Unit) => True) (fun (_ : Unit) t => zQ G [zo a0 9 [.ref a3, .ref a8, .ref a1, .ref a2, .ref a9, .ref a10, .ref a7, .ref a6, .ref a11, .ref a12, .ref a5, .ref a4, .ref a13, .null, .int 0, .int (-1)], zo a1 4 [.int (-1), .int 0, .ref a14], zo a2 0 [.ref a15, .int 0], zo a3 6 [.ref a16, .ref a17, .ref a18, .ref a19, .int 0, .int 0, .int 1, .int 0, .int 0, .long 0], zi G a4 4 zPr, zo a5 8 [.int 0, .int 0, .int 0, .int 0, .int 0, .int 0, .ref a20], zo a6 3 [.ref a21, .int 0, .int 0], zz G a7 3 (fun _ => 0)] A t) A)) (by decide) ⟨Nat.le_of_ble_eq_true rfl, trivial⟩ ?_
  intro p e s m below meth c A ls E B hr hlocks hin hl
  have hl : lv_has ls 2 [(0, .ref a0)] := hl
  have B : zB G A s.heap [zo a0 9 [.ref a3, .ref a8, .ref a1, .ref a2, .ref a9, .ref a10, .ref a7, .ref a6, .ref a11, .ref a12, .ref a5, .ref a4, .ref a13, .null, .int 0, .int (-1)], zo a1 4 [.int (-1), .int 0, .ref a14], zo a2 0 [.ref a15, .int 0], zo a3 6 [.ref a16, .ref a17, .ref a18, .ref a19, .int 0, .int 0, .int 1, .int 0, .int 0, .long 0], zi G a4 4 zPr, zo a5 8 [.int 0, .int 0, .int 0, .int 0, .int 0, .int 0, .ref a20], zo a6 3 [.ref a21, .int 0, .int 0], zz G a7 3 (fun _ => 0)] s.heap [] := B
  refine lv_aload_n E.x E.b dX11_takeOver_0 rfl (lv_at hl 0 rfl) ?_
  refine lv_aload_n E.x E.b dX11_takeOver_1 rfl (lv_at hl 0 rfl) ?_
  refine z_get E B z_inX11 (ci := 9) rfl 2 (by decide) t_371 0 rfl rfl dX11_takeOver_2 ?_
  refine z_get E B z_inX5 (ci := 4) rfl 1 (by decide) t_230 1 rfl rfl dX11_takeOver_5 ?_
  refine z_put E B z_inX11 tyX11 tyX11_ok nmX11 (ci := 9) rfl 14 (by decide) rfl (ty := .int) (by decide +kernel) t_383 0 rfl (Nat.le_of_ble_eq_true rfl) rfl rfl dX11_takeOver_8 (fun H locs B => ?_)
  have B : zB G A s.heap [zo a0 9 [.ref a3, .ref a8, .ref a1, .ref a2, .ref a9, .ref a10, .ref a7, .ref a6, .ref a11, .ref a12, .ref a5, .ref a4, .ref a13, .null, .int 0, .int (-1)], zo a1 4 [.int (-1), .int 0, .ref a14], zo a2 0 [.ref a15, .int 0], zo a3 6 [.ref a16, .ref a17, .ref a18, .ref a19, .int 0, .int 0, .int 1, .int 0, .int 0, .long 0], zi G a4 4 zPr, zo a5 8 [.int 0, .int 0, .int 0, .int 0, .int 0, .int 0, .ref a20], zo a6 3 [.ref a21, .int 0, .int 0], zz G a7 3 (fun _ => 0)] _ _ := B
  refine lv_aload_n E.x E.b dX11_takeOver_11 rfl (lv_at hl 0 rfl) ?_
  refine z_get E B z_inX11 (ci := 9) rfl 2 (by decide) t_371 0 rfl rfl dX11_takeOver_12 ?_
  refine lv_aload_n E.x E.b dX11_takeOver_15 rfl (lv_at hl 0 rfl) ?_
  refine z_get E B z_inX11 (ci := 9) rfl 0 (by decide) t_369 0 rfl rfl dX11_takeOver_16 ?_
  refine lv_aload_n E.x E.b dX11_takeOver_19 rfl (lv_at hl 0 rfl) ?_
  refine z_get E B z_inX11 (ci := 9) rfl 3 (by decide) t_372 0 rfl rfl dX11_takeOver_20 ?_
  refine z_callv E B (wc := [zo a1 4 [.int (-1), .int 0, .ref a14], zo a2 0 [.ref a15, .int 0], zo a3 6 [.ref a16, .ref a17, .ref a18, .ref a19, .int 0, .int 0, .int 1, .int 0, .int 0, .long 0]]) (wr := [zo a0 9 [.ref a3, .ref a8, .ref a1, .ref a2, .ref a9, .ref a10, .ref a7, .ref a6, .ref a11, .ref a12, .ref a5, .ref a4, .ref a13, .null, .int 0, .int (-1)], zi G a4 4 zPr, zo a5 8 [.int 0, .int 0, .int 0, .int 0, .int 0, .int 0, .ref a20], zo a6 3 [.ref a21, .int 0, .int 0], zz G a7 3 (fun _ => 0)]) [1, 2, 3] [0, 4, 5, 6, 7] rfl rfl (by decide) (by decide) (z_runV E B (As := [.ref a3, .ref a2]) (rest := []) [1, 2, 3] rfl (by decide) mv_X5_tellGates t_628 0 (ci := 4) rfl rfl rfl (c_X5_tellGates_51 l G _ a1 a3 a2 a14 a15 a16 a17 a18 a19) rfl rfl ⟨Nat.le_of_ble_eq_true rfl, Nat.le_of_ble_eq_true rfl⟩ rfl hl.1 rfl (Nat.le_of_ble_eq_true rfl) dX11_takeOver_23 ⟨(Nat.le_of_ble_eq_true rfl), (Nat.le_of_ble_eq_true rfl)⟩) (fun  t H locs hp hB J => ?_)
  have hq := hB
  have B := J _ hq
  have B : zB G A s.heap [zo a0 9 [.ref a3, .ref a8, .ref a1, .ref a2, .ref a9, .ref a10, .ref a7, .ref a6, .ref a11, .ref a12, .ref a5, .ref a4, .ref a13, .null, .int 0, .int (-1)], zi G a4 4 zPr, zo a5 8 [.int 0, .int 0, .int 0, .int 0, .int 0, .int 0, .ref a20], zo a6 3 [.ref a21, .int 0, .int 0], zz G a7 3 (fun _ => 0), zo a1 4 [.int (-1), .int 0, .ref a14], zo a2 0 [.ref a15, .int 0], zo a3 6 [.ref a16, .ref a17, .ref a18, .ref a19, .int 0, .int 0, .int 1, .int 0, .int 0, .long 0]] _ _ := B
  refine va_gets E.x E.b hZs B.2.2 E.ow (E.w t_360) (fun _ h => h) dX11_takeOver_26 ?_
  refine lv_iconst (v := 0) E.x E.b dX11_takeOver_29 (by decide) ?_
  refine lv_aload_n E.x E.b dX11_takeOver_30 rfl (lv_at hl 0 rfl) ?_
  refine z_get E B z_inX11 (ci := 9) rfl 11 (by decide) t_380 0 rfl rfl dX11_takeOver_31 ?_
  refine lv_iconst (v := 0) E.x E.b dX11_takeOver_34 (by decide) ?_
  refine lv_aload_n E.x E.b dX11_takeOver_35 rfl (lv_at hl 0 rfl) ?_
  refine z_get E B z_inX11 (ci := 9) rfl 11 (by decide) t_380 0 rfl rfl dX11_takeOver_36 ?_
  refine z_ilen E B 1 rfl (v := 4) (by decide +kernel) dX11_takeOver_39 ?_
  refine z_copyt E B hTs 1 rfl t_arrcopy_X11_125 dX11_takeOver_40 (fun H locs B => ?_)
  have B : zB G A s.heap [zo a0 9 [.ref a3, .ref a8, .ref a1, .ref a2, .ref a9, .ref a10, .ref a7, .ref a6, .ref a11, .ref a12, .ref a5, .ref a4, .ref a13, .null, .int 0, .int (-1)], zi G a4 4 zPr, zo a5 8 [.int 0, .int 0, .int 0, .int 0, .int 0, .int 0, .ref a20], zo a6 3 [.ref a21, .int 0, .int 0], zz G a7 3 (fun _ => 0), zo a1 4 [.int (-1), .int 0, .ref a14], zo a2 0 [.ref a15, .int 0], zo a3 6 [.ref a16, .ref a17, .ref a18, .ref a19, .int 0, .int 0, .int 1, .int 0, .int 0, .long 0]] _ _ := B
  refine lv_aload_n E.x E.b dX11_takeOver_43 rfl (lv_at hl 0 rfl) ?_
  refine z_get E B z_inX11 (ci := 9) rfl 2 (by decide) t_371 0 rfl rfl dX11_takeOver_44 ?_
  refine lv_aload_n E.x E.b dX11_takeOver_47 rfl (lv_at hl 0 rfl) ?_
  refine z_get E B z_inX11 (ci := 9) rfl 0 (by decide) t_369 0 rfl rfl dX11_takeOver_48 ?_
  refine lv_aload_n E.x E.b dX11_takeOver_51 rfl (lv_at hl 0 rfl) ?_
  refine z_get E B z_inX11 (ci := 9) rfl 11 (by decide) t_380 0 rfl rfl dX11_takeOver_52 ?_
  refine z_callv E B (wc := [zo a1 4 [.int (-1), .int 0, .ref a14], zo a3 6 [.ref a16, .ref a17, .ref a18, .ref a19, .int 0, .int 0, .int 1, .int 0, .int 0, .long 0]]) (wr := [zo a0 9 [.ref a3, .ref a8, .ref a1, .ref a2, .ref a9, .ref a10, .ref a7, .ref a6, .ref a11, .ref a12, .ref a5, .ref a4, .ref a13, .null, .int 0, .int (-1)], zi G a4 4 zPr, zo a5 8 [.int 0, .int 0, .int 0, .int 0, .int 0, .int 0, .ref a20], zo a6 3 [.ref a21, .int 0, .int 0], zz G a7 3 (fun _ => 0), zo a2 0 [.ref a15, .int 0]]) [5, 7] [0, 1, 2, 3, 4, 6] rfl rfl (by decide) (by decide) (z_runV E B (As := [.ref a3, .ref a4]) (rest := []) [5, 7] rfl (by decide) mv_X5_tellPrices t_650 0 (ci := 4) rfl rfl rfl (c_X5_tellPrices_52 l G _ a1 a3 a4 a14 a16 a17 a18 a19) rfl rfl ⟨Nat.le_of_ble_eq_true rfl, Nat.le_of_ble_eq_true rfl⟩ rfl hl.1 rfl (Nat.le_of_ble_eq_true rfl) dX11_takeOver_55 ⟨(Nat.le_of_ble_eq_true rfl), (Nat.le_of_ble_eq_true rfl)⟩) (fun  t H locs hp hB J => ?_)
  have hq := hB
  have B := J _ hq
  have B : zB G A s.heap [zo a0 9 [.ref a3, .ref a8, .ref a1, .ref a2, .ref a9, .ref a10, .ref a7, .ref a6, .ref a11, .ref a12, .ref a5, .ref a4, .ref a13, .null, .int 0, .int (-1)], zi G a4 4 zPr, zo a5 8 [.int 0, .int 0, .int 0, .int 0, .int 0, .int 0, .ref a20], zo a6 3 [.ref a21, .int 0, .int 0], zz G a7 3 (fun _ => 0), zo a2 0 [.ref a15, .int 0], zo a1 4 [.int (-1), .int 0, .ref a14], zo a3 6 [.ref a16, .ref a17, .ref a18, .ref a19, .int 0, .int 0, .int 1, .int 0, .int 0, .long 0]] _ _ := B
  refine lv_aload_n E.x E.b dX11_takeOver_58 rfl (lv_at hl 0 rfl) ?_
  refine z_get E B z_inX11 (ci := 9) rfl 2 (by decide) t_371 0 rfl rfl dX11_takeOver_59 ?_
  refine lv_aload_n E.x E.b dX11_takeOver_62 rfl (lv_at hl 0 rfl) ?_
  refine z_get E B z_inX11 (ci := 9) rfl 0 (by decide) t_369 0 rfl rfl dX11_takeOver_63 ?_
  refine lv_aload_n E.x E.b dX11_takeOver_66 rfl (lv_at hl 0 rfl) ?_
  refine z_get E B z_inX11 (ci := 9) rfl 10 (by decide) t_379 0 rfl rfl dX11_takeOver_67 ?_
  refine z_callv E B (wc := [zo a1 4 [.int (-1), .int 0, .ref a14], zo a5 8 [.int 0, .int 0, .int 0, .int 0, .int 0, .int 0, .ref a20], zo a3 6 [.ref a16, .ref a17, .ref a18, .ref a19, .int 0, .int 0, .int 1, .int 0, .int 0, .long 0]]) (wr := [zo a0 9 [.ref a3, .ref a8, .ref a1, .ref a2, .ref a9, .ref a10, .ref a7, .ref a6, .ref a11, .ref a12, .ref a5, .ref a4, .ref a13, .null, .int 0, .int (-1)], zi G a4 4 zPr, zo a6 3 [.ref a21, .int 0, .int 0], zz G a7 3 (fun _ => 0), zo a2 0 [.ref a15, .int 0]]) [6, 2, 7] [0, 1, 3, 4, 5] rfl rfl (by decide) (by decide) (z_runV E B (As := [.ref a3, .ref a5]) (rest := []) [6, 2, 7] rfl (by decide) mv_X5_tellTable t_654 0 (ci := 4) rfl rfl rfl (c_X5_tellTable_53 l G _ a1 a3 a5 a14 a20 a16 a17 a18 a19) rfl rfl ⟨Nat.le_of_ble_eq_true rfl, Nat.le_of_ble_eq_true rfl⟩ rfl hl.1 rfl (Nat.le_of_ble_eq_true rfl) dX11_takeOver_70 ⟨(Nat.le_of_ble_eq_true rfl), (Nat.le_of_ble_eq_true rfl)⟩) (fun  t H locs hp hB J => ?_)
  have hq := hB
  have B := J _ hq
  have B : zB G A s.heap [zo a0 9 [.ref a3, .ref a8, .ref a1, .ref a2, .ref a9, .ref a10, .ref a7, .ref a6, .ref a11, .ref a12, .ref a5, .ref a4, .ref a13, .null, .int 0, .int (-1)], zi G a4 4 zPr, zo a6 3 [.ref a21, .int 0, .int 0], zz G a7 3 (fun _ => 0), zo a2 0 [.ref a15, .int 0], zo a1 4 [.int (-1), .int 0, .ref a14], zo a5 8 [.int 0, .int 0, .int 0, .int 0, .int 0, .int 0, .ref a20], zo a3 6 [.ref a16, .ref a17, .ref a18, .ref a19, .int 0, .int 0, .int 1, .int 0, .int 0, .long 0]] _ _ := B
  refine lv_aload_n E.x E.b dX11_takeOver_73 rfl (lv_at hl 0 rfl) ?_
  refine z_get E B z_inX11 (ci := 9) rfl 7 (by decide) t_376 0 rfl rfl dX11_takeOver_74 ?_
  refine z_callv E B (wc := [zo a6 3 [.ref a21, .int 0, .int 0]]) (wr := [zo a0 9 [.ref a3, .ref a8, .ref a1, .ref a2, .ref a9, .ref a10, .ref a7, .ref a6, .ref a11, .ref a12, .ref a5, .ref a4, .ref a13, .null, .int 0, .int (-1)], zi G a4 4 zPr, zz G a7 3 (fun _ => 0), zo a2 0 [.ref a15, .int 0], zo a1 4 [.int (-1), .int 0, .ref a14], zo a5 8 [.int 0, .int 0, .int 0, .int 0, .int 0, .int 0, .ref a20], zo a3 6 [.ref a16, .ref a17, .ref a18, .ref a19, .int 0, .int 0, .int 1, .int 0, .int 0, .long 0]]) [2] [0, 1, 3, 4, 5, 6, 7] rfl rfl (by decide) (by decide) (z_runV E B (As := []) (rest := []) [2] rfl (by decide) mv_X4_clear t_667 0 (ci := 3) rfl rfl rfl (c_X4_clear_54 l G _ a6 a21) rfl rfl ⟨Nat.le_of_ble_eq_true rfl, Nat.le_of_ble_eq_true rfl⟩ rfl hl.1 rfl (Nat.le_of_ble_eq_true rfl) dX11_takeOver_77 ⟨(Nat.le_of_ble_eq_true rfl), (Nat.le_of_ble_eq_true rfl)⟩) (fun  t H locs hp hB J => ?_)
  have hq := hB
  have B := J _ hq
  have B : zB G A s.heap [zo a0 9 [.ref a3, .ref a8, .ref a1, .ref a2, .ref a9, .ref a10, .ref a7, .ref a6, .ref a11, .ref a12, .ref a5, .ref a4, .ref a13, .null, .int 0, .int (-1)], zi G a4 4 zPr, zz G a7 3 (fun _ => 0), zo a2 0 [.ref a15, .int 0], zo a1 4 [.int (-1), .int 0, .ref a14], zo a5 8 [.int 0, .int 0, .int 0, .int 0, .int 0, .int 0, .ref a20], zo a3 6 [.ref a16, .ref a17, .ref a18, .ref a19, .int 0, .int 0, .int 1, .int 0, .int 0, .long 0], zo a6 3 [.ref a21, .int 0, .int 0]] _ _ := B
  refine lv_iconst (v := 0) E.x E.b dX11_takeOver_80 (by decide) ?_
  refine lv_istore_n (lv' := [(1, .int 0), (0, .ref a0)]) E.x E.b dX11_takeOver_81 rfl hl (by decide) rfl (fun ls hl => ?_)
  refine lv_iload_n E.x E.b dX11_takeOver_82 rfl (lv_at hl 0 rfl) ?_
  refine lv_iconst (v := 3) E.x E.b dX11_takeOver_83 (by decide) ?_
  refine lv_icmp_ge (tgt := 100) E.x E.b dX11_takeOver_84 (by decide) (fun c => absurd c (by decide +kernel)) (fun _ => ?_)
  refine lv_aload_n E.x E.b dX11_takeOver_87 rfl (lv_at hl 1 rfl) ?_
  refine z_get E B z_inX11 (ci := 9) rfl 6 (by decide) t_375 0 rfl rfl dX11_takeOver_88 ?_
  refine lv_iload_n E.x E.b dX11_takeOver_91 rfl (lv_at hl 0 rfl) ?_
  refine lv_iconst (v := 0) E.x E.b dX11_takeOver_92 (by decide) ?_
  refine z_zast0 E B 2 rfl (show ¬ ((0 : Int32) < 0 ∨ 3 ≤ (0 : Int32).toNatClampNeg) by decide +kernel) dX11_takeOver_93 (fun H locs B => ?_)
  have B : zB G A s.heap [zo a0 9 [.ref a3, .ref a8, .ref a1, .ref a2, .ref a9, .ref a10, .ref a7, .ref a6, .ref a11, .ref a12, .ref a5, .ref a4, .ref a13, .null, .int 0, .int (-1)], zi G a4 4 zPr, zz G a7 3 (fun _ => 0), zo a2 0 [.ref a15, .int 0], zo a1 4 [.int (-1), .int 0, .ref a14], zo a5 8 [.int 0, .int 0, .int 0, .int 0, .int 0, .int 0, .ref a20], zo a3 6 [.ref a16, .ref a17, .ref a18, .ref a19, .int 0, .int 0, .int 1, .int 0, .int 0, .long 0], zo a6 3 [.ref a21, .int 0, .int 0]] _ _ := B
  refine lv_iinc (v := 1) (lv' := [(1, .int 1), (0, .ref a0)]) E.x E.b dX11_takeOver_94 hl (k := 0) rfl (by decide +kernel) (by decide) rfl (fun ls hl => ?_)
  refine lv_goto (tgt := 82) E.x E.b dX11_takeOver_97 (by decide) ?_
  refine lv_iload_n E.x E.b dX11_takeOver_82 rfl (lv_at hl 0 rfl) ?_
  refine lv_iconst (v := 3) E.x E.b dX11_takeOver_83 (by decide) ?_
  refine lv_icmp_ge (tgt := 100) E.x E.b dX11_takeOver_84 (by decide) (fun c => absurd c (by decide +kernel)) (fun _ => ?_)
  refine lv_aload_n E.x E.b dX11_takeOver_87 rfl (lv_at hl 1 rfl) ?_
  refine z_get E B z_inX11 (ci := 9) rfl 6 (by decide) t_375 0 rfl rfl dX11_takeOver_88 ?_
  refine lv_iload_n E.x E.b dX11_takeOver_91 rfl (lv_at hl 0 rfl) ?_
  refine lv_iconst (v := 0) E.x E.b dX11_takeOver_92 (by decide) ?_
  refine z_zast0 E B 2 rfl (show ¬ ((1 : Int32) < 0 ∨ 3 ≤ (1 : Int32).toNatClampNeg) by decide +kernel) dX11_takeOver_93 (fun H locs B => ?_)
  have B : zB G A s.heap [zo a0 9 [.ref a3, .ref a8, .ref a1, .ref a2, .ref a9, .ref a10, .ref a7, .ref a6, .ref a11, .ref a12, .ref a5, .ref a4, .ref a13, .null, .int 0, .int (-1)], zi G a4 4 zPr, zz G a7 3 (fun _ => 0), zo a2 0 [.ref a15, .int 0], zo a1 4 [.int (-1), .int 0, .ref a14], zo a5 8 [.int 0, .int 0, .int 0, .int 0, .int 0, .int 0, .ref a20], zo a3 6 [.ref a16, .ref a17, .ref a18, .ref a19, .int 0, .int 0, .int 1, .int 0, .int 0, .long 0], zo a6 3 [.ref a21, .int 0, .int 0]] _ _ := B
  refine lv_iinc (v := 2) (lv' := [(1, .int 2), (0, .ref a0)]) E.x E.b dX11_takeOver_94 hl (k := 0) rfl (by decide +kernel) (by decide) rfl (fun ls hl => ?_)
  refine lv_goto (tgt := 82) E.x E.b dX11_takeOver_97 (by decide) ?_
  refine lv_iload_n E.x E.b dX11_takeOver_82 rfl (lv_at hl 0 rfl) ?_
  refine lv_iconst (v := 3) E.x E.b dX11_takeOver_83 (by decide) ?_
  refine lv_icmp_ge (tgt := 100) E.x E.b dX11_takeOver_84 (by decide) (fun c => absurd c (by decide +kernel)) (fun _ => ?_)
  refine lv_aload_n E.x E.b dX11_takeOver_87 rfl (lv_at hl 1 rfl) ?_
  refine z_get E B z_inX11 (ci := 9) rfl 6 (by decide) t_375 0 rfl rfl dX11_takeOver_88 ?_
  refine lv_iload_n E.x E.b dX11_takeOver_91 rfl (lv_at hl 0 rfl) ?_
  refine lv_iconst (v := 0) E.x E.b dX11_takeOver_92 (by decide) ?_
  refine z_zast0 E B 2 rfl (show ¬ ((2 : Int32) < 0 ∨ 3 ≤ (2 : Int32).toNatClampNeg) by decide +kernel) dX11_takeOver_93 (fun H locs B => ?_)
  have B : zB G A s.heap [zo a0 9 [.ref a3, .ref a8, .ref a1, .ref a2, .ref a9, .ref a10, .ref a7, .ref a6, .ref a11, .ref a12, .ref a5, .ref a4, .ref a13, .null, .int 0, .int (-1)], zi G a4 4 zPr, zz G a7 3 (fun _ => 0), zo a2 0 [.ref a15, .int 0], zo a1 4 [.int (-1), .int 0, .ref a14], zo a5 8 [.int 0, .int 0, .int 0, .int 0, .int 0, .int 0, .ref a20], zo a3 6 [.ref a16, .ref a17, .ref a18, .ref a19, .int 0, .int 0, .int 1, .int 0, .int 0, .long 0], zo a6 3 [.ref a21, .int 0, .int 0]] _ _ := B
  refine lv_iinc (v := 3) (lv' := [(1, .int 3), (0, .ref a0)]) E.x E.b dX11_takeOver_94 hl (k := 0) rfl (by decide +kernel) (by decide) rfl (fun ls hl => ?_)
  refine lv_goto (tgt := 82) E.x E.b dX11_takeOver_97 (by decide) ?_
  refine lv_iload_n E.x E.b dX11_takeOver_82 rfl (lv_at hl 0 rfl) ?_
  refine lv_iconst (v := 3) E.x E.b dX11_takeOver_83 (by decide) ?_
  refine lv_icmp_ge (tgt := 100) E.x E.b dX11_takeOver_84 (by decide) (fun _ => ?_) (fun c => absurd (by decide +kernel) c)
  refine W.widen (k := 0) (n := 0) (Nat.le_of_ble_eq_true rfl) (Nat.le_of_ble_eq_true rfl) ?_
  exact z_vret E hr hlocks B trivial (fun t ht => z_q B [0, 4, 3, 6, 1, 5, 7, 2] (by decide) rfl ht) dX11_takeOver_100
set_option maxHeartbeats 4000000 in
set_option maxRecDepth 100000 in
theorem c_X11_read_56 (l : Launch) (G : zGT) (sz : Nat) (a0 a1 a2 a3 a4 a5 a6 a7 a8 a9 a10 a11 a12 a13 a14 a15 a16 a17 a18 a19 a20 a21 : Nat) : Met l yX11_read (.code yX11_read cX11_read 2 (some .int) :: zT) ({ frames := 3, cells := 0, slots := 0, locals := 129 }) (va_Pc [.ref a0] (zPc G [zo a0 9 [.ref a2, .ref a1, .ref a3, .ref a4, .ref a9, .ref a10, .ref a8, .ref a7, .ref a11, .ref a12, .ref a6, .ref a5, .ref a13, .null, .int 0, .int (-1)], zo a1 2 [.int 0, .int 0, .int 0, .int 0, .int 0, .int 0], zo a2 6 [.ref a14, .ref a15, .ref a16, .ref a17, .int 0, .int 0, .int 0, .int 0, .int 0, .long 0], zo a3 4 [.int 0, .int 0, .ref a18], zo a4 0 [.ref a19, .int 0], zi G a5 4 zPr, zo a6 8 [.int 0, .int 0, .int 0, .int 0, .int 0, .int 0, .ref a20], zo a7 3 [.ref a21, .int 0, .int 0], zz G a8 3 (fun _ => 0)] sz)) ((fun A => va_Qi (fun (r : Int32) (_ : Unit) => r = 0) (fun (_ : Unit) t => zQ G [] A t) A) (va_A [zo a0 9 [.ref a2, .ref a1, .ref a3, .ref a4, .ref a9, .ref a10, .ref a8, .ref a7, .ref a11, .ref a12, .ref a6, .ref a5, .ref a13, .null, .int 0, .int (-1)], zo a1 2 [.int 0, .int 0, .int 0, .int 0, .int 0, .int 0], zo a2 6 [.ref a14, .ref a15, .ref a16, .ref a17, .int 0, .int 0, .int 0, .int 0, .int 0, .long 0], zo a3 4 [.int 0, .int 0, .ref a18], zo a4 0 [.ref a19, .int 0], zi G a5 4 zPr, zo a6 8 [.int 0, .int 0, .int 0, .int 0, .int 0, .int 0, .ref a20], zo a7 3 [.ref a21, .int 0, .int 0], zz G a8 3 (fun _ => 0)] sz)) 0 0 (va_A [zo a0 9 [.ref a2, .ref a1, .ref a3, .ref a4, .ref a9, .ref a10, .ref a8, .ref a7, .ref a11, .ref a12, .ref a6, .ref a5, .ref a13, .null, .int 0, .int (-1)], zo a1 2 [.int 0, .int 0, .int 0, .int 0, .int 0, .int 0], zo a2 6 [.ref a14, .ref a15, .ref a16, .ref a17, .int 0, .int 0, .int 0, .int 0, .int 0, .long 0], zo a3 4 [.int 0, .int 0, .ref a18], zo a4 0 [.ref a19, .int 0], zi G a5 4 zPr, zo a6 8 [.int 0, .int 0, .int 0, .int 0, .int 0, .int 0, .ref a20], zo a7 3 [.ref a21, .int 0, .int 0], zz G a8 3 (fun _ => 0)] sz) := by
  refine z_start (QA := (fun A => va_Qi (fun (r : Int32) (_ : Unit) => r = 0) (fun (_ : Unit) t => zQ G [] A t) A)) (by decide) ⟨Nat.le_of_ble_eq_true rfl, trivial⟩ ?_
  intro p e s m below meth c A ls E B hr hlocks hin hl
  have hl : lv_has ls 2 [(0, .ref a0)] := hl
  have B : zB G A s.heap [zo a0 9 [.ref a2, .ref a1, .ref a3, .ref a4, .ref a9, .ref a10, .ref a8, .ref a7, .ref a11, .ref a12, .ref a6, .ref a5, .ref a13, .null, .int 0, .int (-1)], zo a1 2 [.int 0, .int 0, .int 0, .int 0, .int 0, .int 0], zo a2 6 [.ref a14, .ref a15, .ref a16, .ref a17, .int 0, .int 0, .int 0, .int 0, .int 0, .long 0], zo a3 4 [.int 0, .int 0, .ref a18], zo a4 0 [.ref a19, .int 0], zi G a5 4 zPr, zo a6 8 [.int 0, .int 0, .int 0, .int 0, .int 0, .int 0, .ref a20], zo a7 3 [.ref a21, .int 0, .int 0], zz G a8 3 (fun _ => 0)] s.heap [] := B
  refine lv_aload_n E.x E.b dX11_read_0 rfl (lv_at hl 0 rfl) ?_
  refine z_get E B z_inX11 (ci := 9) rfl 1 (by decide) t_370 0 rfl rfl dX11_read_1 ?_
  refine lv_aload_n E.x E.b dX11_read_4 rfl (lv_at hl 0 rfl) ?_
  refine z_get E B z_inX11 (ci := 9) rfl 0 (by decide) t_369 0 rfl rfl dX11_read_5 ?_
  refine z_calli E B (wc := [zo a1 2 [.int 0, .int 0, .int 0, .int 0, .int 0, .int 0], zo a2 6 [.ref a14, .ref a15, .ref a16, .ref a17, .int 0, .int 0, .int 0, .int 0, .int 0, .long 0]]) (wr := [zo a0 9 [.ref a2, .ref a1, .ref a3, .ref a4, .ref a9, .ref a10, .ref a8, .ref a7, .ref a11, .ref a12, .ref a6, .ref a5, .ref a13, .null, .int 0, .int (-1)], zo a3 4 [.int 0, .int 0, .ref a18], zo a4 0 [.ref a19, .int 0], zi G a5 4 zPr, zo a6 8 [.int 0, .int 0, .int 0, .int 0, .int 0, .int 0, .ref a20], zo a7 3 [.ref a21, .int 0, .int 0], zz G a8 3 (fun _ => 0)]) [1, 2] [0, 3, 4, 5, 6, 7, 8] rfl rfl (by decide) (by decide) (z_runV E B (As := [.ref a2]) (rest := []) [1, 2] rfl (by decide) mv_X3_check t_438 0 (ci := 2) rfl rfl rfl (c_X3_check_48 l G _ a1 a2 a14 a15 a16 a17) rfl rfl ⟨Nat.le_of_ble_eq_true rfl, Nat.le_of_ble_eq_true rfl⟩ rfl hl.1 rfl (Nat.le_of_ble_eq_true rfl) dX11_read_8 ⟨(Nat.le_of_ble_eq_true rfl), (Nat.le_of_ble_eq_true rfl)⟩) (fun r t H locs hp hB J => ?_)
  have hq := hB
  have B := J _ hq
  have B : zB G A s.heap [zo a0 9 [.ref a2, .ref a1, .ref a3, .ref a4, .ref a9, .ref a10, .ref a8, .ref a7, .ref a11, .ref a12, .ref a6, .ref a5, .ref a13, .null, .int 0, .int (-1)], zo a3 4 [.int 0, .int 0, .ref a18], zo a4 0 [.ref a19, .int 0], zi G a5 4 zPr, zo a6 8 [.int 0, .int 0, .int 0, .int 0, .int 0, .int 0, .ref a20], zo a7 3 [.ref a21, .int 0, .int 0], zz G a8 3 (fun _ => 0), zo a1 2 [.int (-1), .int 0, .int 0, .int 0, .int 0, .int 0], zo a2 6 [.ref a14, .ref a15, .ref a16, .ref a17, .int 0, .int 0, .int 1, .int 0, .int 0, .long 0]] _ _ := B
  have hp := hp.symm
  subst hp
  refine lv_istore_n (lv' := [(1, .int 0), (0, .ref a0)]) E.x E.b dX11_read_11 rfl hl (by decide) rfl (fun ls hl => ?_)
  refine lv_aload_n E.x E.b dX11_read_12 rfl (lv_at hl 1 rfl) ?_
  refine lv_aload_n E.x E.b dX11_read_13 rfl (lv_at hl 1 rfl) ?_
  refine z_get E B z_inX11 (ci := 9) rfl 1 (by decide) t_370 0 rfl rfl dX11_read_14 ?_
  refine z_get E B z_inX3 (ci := 2) rfl 0 (by decide) t_202 7 rfl rfl dX11_read_17 ?_
  refine z_put E B z_inX11 tyX11 tyX11_ok nmX11 (ci := 9) rfl 15 (by decide) rfl (ty := .int) (by decide +kernel) t_384 0 rfl (Nat.le_of_ble_eq_true rfl) rfl rfl dX11_read_20 (fun H locs B => ?_)
  have B : zB G A s.heap [zo a0 9 [.ref a2, .ref a1, .ref a3, .ref a4, .ref a9, .ref a10, .ref a8, .ref a7, .ref a11, .ref a12, .ref a6, .ref a5, .ref a13, .null, .int 0, .int (-1)], zo a3 4 [.int 0, .int 0, .ref a18], zo a4 0 [.ref a19, .int 0], zi G a5 4 zPr, zo a6 8 [.int 0, .int 0, .int 0, .int 0, .int 0, .int 0, .ref a20], zo a7 3 [.ref a21, .int 0, .int 0], zz G a8 3 (fun _ => 0), zo a1 2 [.int (-1), .int 0, .int 0, .int 0, .int 0, .int 0], zo a2 6 [.ref a14, .ref a15, .ref a16, .ref a17, .int 0, .int 0, .int 1, .int 0, .int 0, .long 0]] _ _ := B
  refine lv_iload_n E.x E.b dX11_read_23 rfl (lv_at hl 0 rfl) ?_
  refine lv_if_ne (tgt := 50) E.x E.b dX11_read_24 (by decide) (fun c => absurd (by decide +kernel) c) (fun _ => ?_)
  refine lv_aload_n E.x E.b dX11_read_27 rfl (lv_at hl 1 rfl) ?_
  refine z_get E B z_inX11 (ci := 9) rfl 2 (by decide) t_371 0 rfl rfl dX11_read_28 ?_
  refine lv_aload_n E.x E.b dX11_read_31 rfl (lv_at hl 1 rfl) ?_
  refine z_get E B z_inX11 (ci := 9) rfl 0 (by decide) t_369 0 rfl rfl dX11_read_32 ?_
  refine z_calli E B (wc := [zo a3 4 [.int 0, .int 0, .ref a18], zo a2 6 [.ref a14, .ref a15, .ref a16, .ref a17, .int 0, .int 0, .int 1, .int 0, .int 0, .long 0]]) (wr := [zo a0 9 [.ref a2, .ref a1, .ref a3, .ref a4, .ref a9, .ref a10, .ref a8, .ref a7, .ref a11, .ref a12, .ref a6, .ref a5, .ref a13, .null, .int 0, .int (-1)], zo a4 0 [.ref a19, .int 0], zi G a5 4 zPr, zo a6 8 [.int 0, .int 0, .int 0, .int 0, .int 0, .int 0, .ref a20], zo a7 3 [.ref a21, .int 0, .int 0], zz G a8 3 (fun _ => 0), zo a1 2 [.int (-1), .int 0, .int 0, .int 0, .int 0, .int 0]]) [1, 8] [0, 2, 3, 4, 5, 6, 7] rfl rfl (by decide) (by decide) (z_runV E B (As := [.ref a2]) (rest := []) [1, 8] rfl (by decide) mv_X5_check t_574 0 (ci := 4) rfl rfl rfl (c_X5_check_50 l G _ a3 a2 a18 a14 a15 a16 a17) rfl rfl ⟨Nat.le_of_ble_eq_true rfl, Nat.le_of_ble_eq_true rfl⟩ rfl hl.1 rfl (Nat.le_of_ble_eq_true rfl) dX11_read_35 ⟨(Nat.le_of_ble_eq_true rfl), (Nat.le_of_ble_eq_true rfl)⟩) (fun r t H locs hp hB J => ?_)
  have hq := hB
  have B := J _ hq
  have B : zB G A s.heap [zo a0 9 [.ref a2, .ref a1, .ref a3, .ref a4, .ref a9, .ref a10, .ref a8, .ref a7, .ref a11, .ref a12, .ref a6, .ref a5, .ref a13, .null, .int 0, .int (-1)], zo a4 0 [.ref a19, .int 0], zi G a5 4 zPr, zo a6 8 [.int 0, .int 0, .int 0, .int 0, .int 0, .int 0, .ref a20], zo a7 3 [.ref a21, .int 0, .int 0], zz G a8 3 (fun _ => 0), zo a1 2 [.int (-1), .int 0, .int 0, .int 0, .int 0, .int 0], zo a3 4 [.int (-1), .int 0, .ref a18], zo a2 6 [.ref a14, .ref a15, .ref a16, .ref a17, .int 0, .int 0, .int 1, .int 0, .int 0, .long 0]] _ _ := B
  have hp := hp.symm
  subst hp
  refine lv_istore_n (lv' := [(1, .int 0), (0, .ref a0)]) E.x E.b dX11_read_38 rfl hl (by decide) rfl (fun ls hl => ?_)
  refine lv_aload_n E.x E.b dX11_read_39 rfl (lv_at hl 1 rfl) ?_
  refine lv_aload_n E.x E.b dX11_read_40 rfl (lv_at hl 1 rfl) ?_
  refine z_get E B z_inX11 (ci := 9) rfl 2 (by decide) t_371 0 rfl rfl dX11_read_41 ?_
  refine z_get E B z_inX5 (ci := 4) rfl 0 (by decide) t_228 7 rfl rfl dX11_read_44 ?_
  refine z_put E B z_inX11 tyX11 tyX11_ok nmX11 (ci := 9) rfl 15 (by decide) rfl (ty := .int) (by decide +kernel) t_384 0 rfl (Nat.le_of_ble_eq_true rfl) rfl rfl dX11_read_47 (fun H locs B => ?_)
  have B : zB G A s.heap [zo a0 9 [.ref a2, .ref a1, .ref a3, .ref a4, .ref a9, .ref a10, .ref a8, .ref a7, .ref a11, .ref a12, .ref a6, .ref a5, .ref a13, .null, .int 0, .int (-1)], zo a4 0 [.ref a19, .int 0], zi G a5 4 zPr, zo a6 8 [.int 0, .int 0, .int 0, .int 0, .int 0, .int 0, .ref a20], zo a7 3 [.ref a21, .int 0, .int 0], zz G a8 3 (fun _ => 0), zo a1 2 [.int (-1), .int 0, .int 0, .int 0, .int 0, .int 0], zo a3 4 [.int (-1), .int 0, .ref a18], zo a2 6 [.ref a14, .ref a15, .ref a16, .ref a17, .int 0, .int 0, .int 1, .int 0, .int 0, .long 0]] _ _ := B
  refine lv_aload_n E.x E.b dX11_read_50 rfl (lv_at hl 1 rfl) ?_
  refine z_get E B z_inX11 (ci := 9) rfl 0 (by decide) t_369 0 rfl rfl dX11_read_51 ?_
  refine lv_iconst (v := 0) E.x E.b dX11_read_54 (by decide) ?_
  refine z_put E B z_inX8 tyX8 tyX8_ok nmX8 (ci := 6) rfl 4 (by decide) rfl (ty := .int) (by decide +kernel) t_162 8 rfl (Nat.le_of_ble_eq_true rfl) rfl rfl dX11_read_55 (fun H locs B => ?_)
  have B : zB G A s.heap [zo a0 9 [.ref a2, .ref a1, .ref a3, .ref a4, .ref a9, .ref a10, .ref a8, .ref a7, .ref a11, .ref a12, .ref a6, .ref a5, .ref a13, .null, .int 0, .int (-1)], zo a4 0 [.ref a19, .int 0], zi G a5 4 zPr, zo a6 8 [.int 0, .int 0, .int 0, .int 0, .int 0, .int 0, .ref a20], zo a7 3 [.ref a21, .int 0, .int 0], zz G a8 3 (fun _ => 0), zo a1 2 [.int (-1), .int 0, .int 0, .int 0, .int 0, .int 0], zo a3 4 [.int (-1), .int 0, .ref a18], zo a2 6 [.ref a14, .ref a15, .ref a16, .ref a17, .int 0, .int 0, .int 1, .int 0, .int 0, .long 0]] _ _ := B
  refine lv_iload_n E.x E.b dX11_read_58 rfl (lv_at hl 0 rfl) ?_
  refine lv_if_ne (tgt := 66) E.x E.b dX11_read_59 (by decide) (fun c => absurd (by decide +kernel) c) (fun _ => ?_)
  refine lv_aload_n E.x E.b dX11_read_62 rfl (lv_at hl 1 rfl) ?_
  refine z_callv E B (wc := [zo a0 9 [.ref a2, .ref a1, .ref a3, .ref a4, .ref a9, .ref a10, .ref a8, .ref a7, .ref a11, .ref a12, .ref a6, .ref a5, .ref a13, .null, .int 0, .int (-1)], zo a3 4 [.int (-1), .int 0, .ref a18], zo a4 0 [.ref a19, .int 0], zo a2 6 [.ref a14, .ref a15, .ref a16, .ref a17, .int 0, .int 0, .int 1, .int 0, .int 0, .long 0], zi G a5 4 zPr, zo a6 8 [.int 0, .int 0, .int 0, .int 0, .int 0, .int 0, .ref a20], zo a7 3 [.ref a21, .int 0, .int 0], zz G a8 3 (fun _ => 0)]) (wr := [zo a1 2 [.int (-1), .int 0, .int 0, .int 0, .int 0, .int 0]]) [0, 7, 1, 8, 2, 3, 4, 5] [6] rfl rfl (by decide) (by decide) (z_runV E B (As := []) (rest := []) [0, 7, 1, 8, 2, 3, 4, 5] rfl (by decide) mv_X11_takeOver t_624 0 (ci := 9) rfl rfl rfl (c_X11_takeOver_55 l G _ a0 a3 a4 a2 a5 a6 a7 a8 a1 a9 a10 a11 a12 a13 a18 a19 a14 a15 a16 a17 a20 a21) rfl rfl ⟨Nat.le_of_ble_eq_true rfl, Nat.le_of_ble_eq_true rfl⟩ rfl hl.1 rfl (Nat.le_of_ble_eq_true rfl) dX11_read_63 ⟨(Nat.le_of_ble_eq_true rfl), (Nat.le_of_ble_eq_true rfl)⟩) (fun  t H locs hp hB J => ?_)
  have hq := hB
  have B := J _ hq
  have B : zB G A s.heap [zo a1 2 [.int (-1), .int 0, .int 0, .int 0, .int 0, .int 0], zo a0 9 [.ref a2, .ref a1, .ref a3, .ref a4, .ref a9, .ref a10, .ref a8, .ref a7, .ref a11, .ref a12, .ref a6, .ref a5, .ref a13, .null, .int 0, .int (-1)], zo a3 4 [.int (-1), .int 0, .ref a18], zo a4 0 [.ref a19, .int 0], zo a2 6 [.ref a14, .ref a15, .ref a16, .ref a17, .int 0, .int 0, .int 1, .int 0, .int 0, .long 0], zi G a5 4 zPr, zo a6 8 [.int 0, .int 0, .int 0, .int 0, .int 0, .int 0, .ref a20], zo a7 3 [.ref a21, .int 0, .int 0], zz G a8 3 (fun _ => 0)] _ _ := B
  refine lv_iload_n E.x E.b dX11_read_66 rfl (lv_at hl 0 rfl) ?_
  refine W.widen (k := 0) (n := 0) (Nat.le_of_ble_eq_true rfl) (Nat.le_of_ble_eq_true rfl) ?_
  exact z_iret E hr hlocks B (v := 0) rfl (fun t ht => z_q B [] (by decide) rfl ht) dX11_read_67
