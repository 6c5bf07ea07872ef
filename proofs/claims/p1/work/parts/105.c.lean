set_option maxHeartbeats 4000000 in
set_option maxRecDepth 100000 in
theorem c_X11_foundCascade_74 (l : Launch) (G : zGT) (sz : Nat) (a0 a1 a2 a3 a4 a5 a6 a7 a8 a9 a10 a11 a12 a13 a14 a15 a16 a17 a18 a19 : Nat) : Met l yX11_foundCascade (.code yX11_foundCascade cX11_foundCascade 2 (some (.object "BackLogic$Cascade")) :: zT) ({ frames := 2, cells := 0, slots := 0, locals := 115 }) (va_Pc [.ref a0, .int 0] (zPc G [zo a0 9 [.ref a6, .ref a7, .ref a8, .ref a2, .ref a9, .ref a10, .ref a11, .ref a12, .ref a1, .ref a13, .ref a14, .ref a15, .ref a16, .null, .int 0, .int (-1)], zo a1 1 [.ref a3, .ref a4, .ref a5], zo a2 0 [.ref a17, .int 0], zi G a3 64 (fun _ => 0), zo a4 0 [.ref a18, .int 0], zo a5 0 [.ref a19, .int 0]] sz)) ((fun A => va_Qr (fun (_ : Unit) => True) (fun (_ : Unit) r t => r = a4 ∧ zQ G [zo a0 9 [.ref a6, .ref a7, .ref a8, .ref a2, .ref a9, .ref a10, .ref a11, .ref a12, .ref a1, .ref a13, .ref a14, .ref a15, .ref a16, .null, .int 0, .int (-1)], zo a1 1 [.ref a3, .ref a4, .ref a5], zo a2 0 [.ref a17, .int 0], zi G a3 64 (fun _ => 0), zo a4 0 [.ref a18, .int 0], zo a5 0 [.ref a19, .int 0]] A t) A) (va_A [zo a0 9 [.ref a6, .ref a7, .ref a8, .ref a2, .ref a9, .ref a10, .ref a11, .ref a12, .ref a1, .ref a13, .ref a14, .ref a15, .ref a16, .null, .int 0, .int (-1)], zo a1 1 [.ref a3, .ref a4, .ref a5], zo a2 0 [.ref a17, .int 0], zi G a3 64 (fun _ => 0), zo a4 0 [.ref a18, .int 0], zo a5 0 [.ref a19, .int 0]] sz)) 0 0 (va_A [zo a0 9 [.ref a6, .ref a7, .ref a8, .ref a2, .ref a9, .ref a10, .ref a11, .ref a12, .ref a1, .ref a13, .ref a14, .ref a15, .ref a16, .null, .int 0, .int (-1)], zo a1 1 [.ref a3, .ref a4, .ref a5], zo a2 0 [.ref a17, .int 0], zi G a3 64 (fun _ => 0), zo a4 0 [.ref a18, .int 0], zo a5 0 [.ref a19, .int 0]] sz) := by
  refine z_start (y := yX11_foundCascade) (bytes := cX11_foundCascade) (maxL := 2) (ret := (some (.object "BackLogic$Cascade"))) (av := [.ref a0, .int 0]) (QA := (fun A => va_Qr (fun (_ : Unit) => True) (fun (_ : Unit) r t => r = a4 ∧ zQ G [zo a0 9 [.ref a6, .ref a7, .ref a8, .ref a2, .ref a9, .ref a10, .ref a11, .ref a12, .ref a1, .ref a13, .ref a14, .ref a15, .ref a16, .null, .int 0, .int (-1)], zo a1 1 [.ref a3, .ref a4, .ref a5], zo a2 0 [.ref a17, .int 0], zi G a3 64 (fun _ => 0), zo a4 0 [.ref a18, .int 0], zo a5 0 [.ref a19, .int 0]] A t) A)) (by decide) ⟨Nat.le_of_ble_eq_true rfl, trivial⟩ ?_
  intro p e s m below meth c A ls E B hr hlocks hin hl
  have hl : lv_has ls 2 [(0, .ref a0), (1, .int 0)] := hl
  have B : zB G A s.heap [zo a0 9 [.ref a6, .ref a7, .ref a8, .ref a2, .ref a9, .ref a10, .ref a11, .ref a12, .ref a1, .ref a13, .ref a14, .ref a15, .ref a16, .null, .int 0, .int (-1)], zo a1 1 [.ref a3, .ref a4, .ref a5], zo a2 0 [.ref a17, .int 0], zi G a3 64 (fun _ => 0), zo a4 0 [.ref a18, .int 0], zo a5 0 [.ref a19, .int 0]] s.heap [] := B
  refine lv_aload_n E.x E.b dX11_foundCascade_0 rfl (lv_at hl 0 rfl) ?_
  refine z_get E B z_inX11 (ci := 9) rfl 3 (by decide) t_372 0 rfl rfl dX11_foundCascade_1 ?_
  refine lv_aload_n E.x E.b dX11_foundCascade_4 rfl (lv_at hl 0 rfl) ?_
  refine z_calli E B (wc := [zo a0 9 [.ref a6, .ref a7, .ref a8, .ref a2, .ref a9, .ref a10, .ref a11, .ref a12, .ref a1, .ref a13, .ref a14, .ref a15, .ref a16, .null, .int 0, .int (-1)]]) (wr := [zo a1 1 [.ref a3, .ref a4, .ref a5], zo a2 0 [.ref a17, .int 0], zi G a3 64 (fun _ => 0), zo a4 0 [.ref a18, .int 0], zo a5 0 [.ref a19, .int 0]]) [0] [1, 2, 3, 4, 5] rfl rfl (by decide) (by decide) (z_runV E B (As := []) (rest := [.ref a2]) [0] rfl (by decide) mv_X11_rows t_687 0 (ci := 9) rfl rfl rfl (c_X11_rows_65 l G _ a0 a6 a7 a8 a2 a9 a10 a11 a12 a1 a13 a14 a15 a16) rfl rfl ⟨Nat.le_of_ble_eq_true rfl, Nat.le_of_ble_eq_true rfl⟩ rfl hl.1 rfl (Nat.le_of_ble_eq_true rfl) dX11_foundCascade_5 ⟨(Nat.le_of_ble_eq_true rfl), (Nat.le_of_ble_eq_true rfl)⟩) (fun r t H locs hp hB J => ?_)
  have hq := hB
  have B := J _ hq
  have B : zB G A s.heap [zo a1 1 [.ref a3, .ref a4, .ref a5], zo a2 0 [.ref a17, .int 0], zi G a3 64 (fun _ => 0), zo a4 0 [.ref a18, .int 0], zo a5 0 [.ref a19, .int 0], zo a0 9 [.ref a6, .ref a7, .ref a8, .ref a2, .ref a9, .ref a10, .ref a11, .ref a12, .ref a1, .ref a13, .ref a14, .ref a15, .ref a16, .null, .int 0, .int (-1)]] _ _ := B
  have hp := hp.symm
  subst hp
  refine lv_aload_n E.x E.b dX11_foundCascade_8 rfl (lv_at hl 0 rfl) ?_
  refine z_get E B z_inX11 (ci := 9) rfl 8 (by decide) t_377 5 rfl rfl dX11_foundCascade_9 ?_
  refine z_get E B z_inX1 (ci := 1) rfl 0 (by decide) t_290 0 rfl rfl dX11_foundCascade_12 ?_
  refine z_callv E B (wc := [zo a2 0 [.ref a17, .int 0], zi G a3 64 (fun _ => 0)]) (wr := [zo a1 1 [.ref a3, .ref a4, .ref a5], zo a4 0 [.ref a18, .int 0], zo a5 0 [.ref a19, .int 0], zo a0 9 [.ref a6, .ref a7, .ref a8, .ref a2, .ref a9, .ref a10, .ref a11, .ref a12, .ref a1, .ref a13, .ref a14, .ref a15, .ref a16, .null, .int 0, .int (-1)]]) [1, 2] [0, 3, 4, 5] rfl rfl (by decide) (by decide) (z_runV E B (As := [.int 1, .ref a3]) (rest := []) [1, 2] rfl (by decide) mv_X0_makeOrder t_794 0 (ci := 0) rfl rfl rfl (c_X0_makeOrder_70 l G _ a2 a3 a17) rfl rfl ⟨Nat.le_of_ble_eq_true rfl, Nat.le_of_ble_eq_true rfl⟩ rfl hl.1 rfl (Nat.le_of_ble_eq_true rfl) dX11_foundCascade_15 ⟨(Nat.le_of_ble_eq_true rfl), (Nat.le_of_ble_eq_true rfl)⟩) (fun  t H locs hp hB J => ?_)
  have hq := hB
  have B := J _ hq
  have B : zB G A s.heap [zo a1 1 [.ref a3, .ref a4, .ref a5], zo a4 0 [.ref a18, .int 0], zo a5 0 [.ref a19, .int 0], zo a0 9 [.ref a6, .ref a7, .ref a8, .ref a2, .ref a9, .ref a10, .ref a11, .ref a12, .ref a1, .ref a13, .ref a14, .ref a15, .ref a16, .null, .int 0, .int (-1)], zo a2 0 [.ref a17, .int 0], zi G a3 64 (fun _ => 0)] _ _ := B
  refine lv_aload_n E.x E.b dX11_foundCascade_18 rfl (lv_at hl 0 rfl) ?_
  refine z_get E B z_inX11 (ci := 9) rfl 8 (by decide) t_377 3 rfl rfl dX11_foundCascade_19 ?_
  refine lv_aload_n E.x E.b dX11_foundCascade_22 rfl (lv_at hl 0 rfl) ?_
  refine z_calli E B (wc := [zo a0 9 [.ref a6, .ref a7, .ref a8, .ref a2, .ref a9, .ref a10, .ref a11, .ref a12, .ref a1, .ref a13, .ref a14, .ref a15, .ref a16, .null, .int 0, .int (-1)]]) (wr := [zo a1 1 [.ref a3, .ref a4, .ref a5], zo a4 0 [.ref a18, .int 0], zo a5 0 [.ref a19, .int 0], zo a2 0 [.ref a17, .int 0], zi G a3 64 (fun _ => 0)]) [3] [0, 1, 2, 4, 5] rfl rfl (by decide) (by decide) (z_runV E B (As := []) (rest := [.ref a1]) [3] rfl (by decide) mv_X11_rows t_687 0 (ci := 9) rfl rfl rfl (c_X11_rows_65 l G _ a0 a6 a7 a8 a2 a9 a10 a11 a12 a1 a13 a14 a15 a16) rfl rfl ⟨Nat.le_of_ble_eq_true rfl, Nat.le_of_ble_eq_true rfl⟩ rfl hl.1 rfl (Nat.le_of_ble_eq_true rfl) dX11_foundCascade_23 ⟨(Nat.le_of_ble_eq_true rfl), (Nat.le_of_ble_eq_true rfl)⟩) (fun r t H locs hp hB J => ?_)
  have hq := hB
  have B := J _ hq
  have B : zB G A s.heap [zo a1 1 [.ref a3, .ref a4, .ref a5], zo a4 0 [.ref a18, .int 0], zo a5 0 [.ref a19, .int 0], zo a2 0 [.ref a17, .int 0], zi G a3 64 (fun _ => 0), zo a0 9 [.ref a6, .ref a7, .ref a8, .ref a2, .ref a9, .ref a10, .ref a11, .ref a12, .ref a1, .ref a13, .ref a14, .ref a15, .ref a16, .null, .int 0, .int (-1)]] _ _ := B
  have hp := hp.symm
  subst hp
  refine lv_iload_n E.x E.b dX11_foundCascade_26 rfl (lv_at hl 1 rfl) ?_
  refine z_callv E B (wc := [zo a1 1 [.ref a3, .ref a4, .ref a5], zo a4 0 [.ref a18, .int 0], zo a5 0 [.ref a19, .int 0], zi G a3 64 (fun _ => 0)]) (wr := [zo a2 0 [.ref a17, .int 0], zo a0 9 [.ref a6, .ref a7, .ref a8, .ref a2, .ref a9, .ref a10, .ref a11, .ref a12, .ref a1, .ref a13, .ref a14, .ref a15, .ref a16, .null, .int 0, .int (-1)]]) [0, 1, 2, 4] [3, 5] rfl rfl (by decide) (by decide) (z_runV E B (As := [.int 1, .int 0]) (rest := []) [0, 1, 2, 4] rfl (by decide) mv_X1_find t_803 0 (ci := 1) rfl rfl rfl (c_X1_find_73 l G _ a1 a4 a5 a3 a18 a19) rfl rfl ⟨Nat.le_of_ble_eq_true rfl, Nat.le_of_ble_eq_true rfl⟩ rfl hl.1 rfl (Nat.le_of_ble_eq_true rfl) dX11_foundCascade_27 ⟨(Nat.le_of_ble_eq_true rfl), (Nat.le_of_ble_eq_true rfl)⟩) (fun  t H locs hp hB J => ?_)
  have hq := hB
  have B := J _ hq
  have B : zB G A s.heap [zo a2 0 [.ref a17, .int 0], zo a0 9 [.ref a6, .ref a7, .ref a8, .ref a2, .ref a9, .ref a10, .ref a11, .ref a12, .ref a1, .ref a13, .ref a14, .ref a15, .ref a16, .null, .int 0, .int (-1)], zo a1 1 [.ref a3, .ref a4, .ref a5], zo a4 0 [.ref a18, .int 0], zo a5 0 [.ref a19, .int 0], zi G a3 64 (fun _ => 0)] _ _ := B
  refine lv_aload_n E.x E.b dX11_foundCascade_30 rfl (lv_at hl 0 rfl) ?_
  refine z_get E B z_inX11 (ci := 9) rfl 8 (by decide) t_377 1 rfl rfl dX11_foundCascade_31 ?_
  refine z_get E B z_inX1 (ci := 1) rfl 1 (by decide) t_292 2 rfl rfl dX11_foundCascade_34 ?_
  refine W.widen (k := 0) (n := 0) (Nat.le_of_ble_eq_true rfl) (Nat.le_of_ble_eq_true rfl) ?_
  exact z_aret E hr (Or.inl ⟨_, rfl⟩) hlocks B trivial (fun t ht => ⟨rfl, z_q B [1, 2, 0, 5, 3, 4] (by decide) rfl ht⟩) dX11_foundCascade_37
set_option maxHeartbeats 4000000 in
set_option maxRecDepth 100000 in
theorem c_X0_copy_75 (l : Launch) (G : zGT) (sz : Nat) (a0 a1 a2 a3 : Nat) : Met l yX0_copy (.code yX0_copy cX0_copy 2 none :: zT) ({ frames := 1, cells := 0, slots := 0, locals := 64 }) (va_Pc [.ref a0, .ref a1] (zPc G [zo a0 0 [.ref a2, .int 0], zo a1 0 [.ref a3, .int 0], zi G a2 16 (fun _ => 0), zi G a3 384 (fun _ => 0)] sz)) ((fun A => va_Qv (fun (_ : Unit) => True) (fun (_ : Unit) t => zQ G [zo a0 0 [.ref a2, .int 0], zo a1 0 [.ref a3, .int 0], zi G a2 16 (fun _ => 0), zi G a3 384 (fun _ => 0)] A t) A) (va_A [zo a0 0 [.ref a2, .int 0], zo a1 0 [.ref a3, .int 0], zi G a2 16 (fun _ => 0), zi G a3 384 (fun _ => 0)] sz)) 0 0 (va_A [zo a0 0 [.ref a2, .int 0], zo a1 0 [.ref a3, .int 0], zi G a2 16 (fun _ => 0), zi G a3 384 (fun _ => 0)] sz) := by
  refine z_start (y := yX0_copy) (bytes := cX0_copy) (maxL := 2) (ret := none) (av := [.ref a0, .ref a1]) (QA := (fun A => va_Qv (fun (_ : Unit) => True) (fun (_ : Unit) t => zQ G [zo a0 0 [.ref a2, .int 0], zo a1 0 [.ref a3, .int 0], zi G a2 16 (fun _ => 0), zi G a3 384 (fun _ => 0)] A t) A)) (by decide) ⟨Nat.le_of_ble_eq_true rfl, trivial⟩ ?_
  intro p e s m below meth c A ls E B hr hlocks hin hl
  have hl : lv_has ls 2 [(0, .ref a0), (1, .ref a1)] := hl
  have B : zB G A s.heap [zo a0 0 [.ref a2, .int 0], zo a1 0 [.ref a3, .int 0], zi G a2 16 (fun _ => 0), zi G a3 384 (fun _ => 0)] s.heap [] := B
  refine lv_aload_n E.x E.b dX0_copy_0 rfl (lv_at hl 0 rfl) ?_
  refine lv_aload_n E.x E.b dX0_copy_1 rfl (lv_at hl 1 rfl) ?_
  refine z_get E B z_inX0 (ci := 0) rfl 1 (by decide) t_250 1 rfl rfl dX0_copy_2 ?_
  refine lv_aload_n E.x E.b dX0_copy_5 rfl (lv_at hl 0 rfl) ?_
  refine z_get E B z_inX0 (ci := 0) rfl 0 (by decide) t_248 0 rfl rfl dX0_copy_6 ?_
  refine z_ilen E B 2 rfl (v := 16) (by decide +kernel) dX0_copy_9 ?_
  refine va_mmin E.x E.b (E.1.2.2.1.trans hl.1.symm) E.ow (E.w t_mlX0_33) (E.w t_mmin1) (E.w t_127) (E.w t_mmin2) (Nat.le_of_ble_eq_true rfl) (Nat.le_of_ble_eq_true rfl) (Nat.le_of_ble_eq_true rfl) (Nat.le_of_ble_eq_true rfl) dX0_copy_10 (z_topi 0 (by decide +kernel) ?_)
  refine z_put E B z_inX0 tyX0 tyX0_ok nmX0 (ci := 0) rfl 1 (by decide) rfl (ty := .int) (by decide +kernel) t_250 0 rfl (Nat.le_of_ble_eq_true rfl) rfl rfl dX0_copy_13 (fun H locs B => ?_)
  have B : zB G A s.heap [zo a0 0 [.ref a2, .int 0], zo a1 0 [.ref a3, .int 0], zi G a2 16 (fun _ => 0), zi G a3 384 (fun _ => 0)] _ _ := B
  refine lv_aload_n E.x E.b dX0_copy_16 rfl (lv_at hl 1 rfl) ?_
  refine z_get E B z_inX0 (ci := 0) rfl 0 (by decide) t_248 1 rfl rfl dX0_copy_17 ?_
  refine lv_iconst (v := 0) E.x E.b dX0_copy_20 (by decide) ?_
  refine lv_aload_n E.x E.b dX0_copy_21 rfl (lv_at hl 0 rfl) ?_
  refine z_get E B z_inX0 (ci := 0) rfl 0 (by decide) t_248 0 rfl rfl dX0_copy_22 ?_
  refine lv_iconst (v := 0) E.x E.b dX0_copy_25 (by decide) ?_
  refine lv_aload_n E.x E.b dX0_copy_26 rfl (lv_at hl 0 rfl) ?_
  refine z_get E B z_inX0 (ci := 0) rfl 1 (by decide) t_250 0 rfl rfl dX0_copy_27 ?_
  refine z_copy0 E B (lv_sub hl [] rfl) 3 2 rfl rfl t_arrcopy_X0_36 t_acn t_acs t_aci (Nat.le_of_ble_eq_true rfl) (Nat.le_of_ble_eq_true rfl) dX0_copy_30 (fun H locs B => ?_)
  have B : zB G A s.heap [zo a0 0 [.ref a2, .int 0], zo a1 0 [.ref a3, .int 0], zi G a2 16 (fun _ => 0), zi G a3 384 (fun _ => 0)] _ _ := B
  refine W.widen (k := 0) (n := 0) (Nat.le_of_ble_eq_true rfl) (Nat.le_of_ble_eq_true rfl) ?_
  exact z_vret E hr hlocks B trivial (fun t ht => z_q B [0, 1, 2, 3] (by decide) rfl ht) dX0_copy_33
set_option maxHeartbeats 4000000 in
set_option maxRecDepth 100000 in
theorem c_X1_sourceOf_76 (l : Launch) (G : zGT) (sz : Nat) (a0 a1 a2 a3 : Nat) : Met l yX1_sourceOf (.code yX1_sourceOf cX1_sourceOf 4 (some .int) :: zT) ({ frames := 0, cells := 0, slots := 0, locals := 64 }) (va_Pc [.ref a0, .int 0, .int 1] (zPc G [zo a0 1 [.ref a1, .ref a2, .ref a3], zi G a1 64 (fun _ => 0)] sz)) ((fun A => va_Qi (fun (r : Int32) (_ : Unit) => r = 0) (fun (_ : Unit) t => zQ G [zo a0 1 [.ref a1, .ref a2, .ref a3], zi G a1 64 (fun _ => 0)] A t) A) (va_A [zo a0 1 [.ref a1, .ref a2, .ref a3], zi G a1 64 (fun _ => 0)] sz)) 0 0 (va_A [zo a0 1 [.ref a1, .ref a2, .ref a3], zi G a1 64 (fun _ => 0)] sz) := by
  refine z_start (y := yX1_sourceOf) (bytes := cX1_sourceOf) (maxL := 4) (ret := (some .int)) (av := [.ref a0, .int 0, .int 1]) (QA := (fun A => va_Qi (fun (r : Int32) (_ : Unit) => r = 0) (fun (_ : Unit) t => zQ G [zo a0 1 [.ref a1, .ref a2, .ref a3], zi G a1 64 (fun _ => 0)] A t) A)) (by decide) ⟨Nat.le_of_ble_eq_true rfl, trivial⟩ ?_
  intro p e s m below meth c A ls E B hr hlocks hin hl
  have hl : lv_has ls 4 [(0, .ref a0), (1, .int 0), (2, .int 1)] := hl
  have B : zB G A s.heap [zo a0 1 [.ref a1, .ref a2, .ref a3], zi G a1 64 (fun _ => 0)] s.heap [] := B
  refine lv_iconst (v := 0) E.x E.b dX1_sourceOf_0 (by decide) ?_
  refine lv_istore_n (lv' := [(3, .int 0), (0, .ref a0), (1, .int 0), (2, .int 1)]) E.x E.b dX1_sourceOf_1 rfl hl (by decide) rfl (fun ls hl => ?_)
  refine lv_iload_n E.x E.b dX1_sourceOf_2 rfl (lv_at hl 0 rfl) ?_
  refine lv_iload_n E.x E.b dX1_sourceOf_3 rfl (lv_at hl 3 rfl) ?_
  refine lv_icmp_ge (tgt := 34) E.x E.b dX1_sourceOf_4 (by decide) (fun c => absurd c (by decide +kernel)) (fun _ => ?_)
  refine lv_iload_n E.x E.b dX1_sourceOf_7 rfl (lv_at hl 0 rfl) ?_
  refine lv_aload_n E.x E.b dX1_sourceOf_8 rfl (lv_at hl 1 rfl) ?_
  refine z_get E B z_inX1 (ci := 1) rfl 0 (by decide) t_289 0 rfl rfl dX1_sourceOf_9 ?_
  refine z_ilen E B 1 rfl (v := 64) (by decide +kernel) dX1_sourceOf_12 ?_
  refine lv_icmp_ge (tgt := 34) E.x E.b dX1_sourceOf_13 (by decide) (fun c => absurd c (by decide +kernel)) (fun _ => ?_)
  refine lv_aload_n E.x E.b dX1_sourceOf_16 rfl (lv_at hl 1 rfl) ?_
  refine z_get E B z_inX1 (ci := 1) rfl 0 (by decide) t_289 0 rfl rfl dX1_sourceOf_17 ?_
  refine lv_iload_n E.x E.b dX1_sourceOf_20 rfl (lv_at hl 0 rfl) ?_
  refine z_iald E B 1 rfl (show ¬ ((0 : Int32) < 0 ∨ 64 ≤ (0 : Int32).toNatClampNeg) by decide +kernel) dX1_sourceOf_21 (z_topi 0 rfl ?_)
  refine lv_iload_n E.x E.b dX1_sourceOf_22 rfl (lv_at hl 2 rfl) ?_
  refine lv_icmp_ne (tgt := 28) E.x E.b dX1_sourceOf_23 (by decide) (fun c => absurd (by decide +kernel) c) (fun _ => ?_)
  refine lv_iload_n E.x E.b dX1_sourceOf_26 rfl (lv_at hl 0 rfl) ?_
  refine W.widen (k := 0) (n := 0) (Nat.le_of_ble_eq_true rfl) (Nat.le_of_ble_eq_true rfl) ?_
  exact z_iret E hr hlocks B (v := 0) rfl (fun t ht => z_q B [0, 1] (by decide) rfl ht) dX1_sourceOf_27
set_option maxHeartbeats 4000000 in
set_option maxRecDepth 100000 in
theorem c_X1_find_77 (l : Launch) (G : zGT) (sz : Nat) (a0 a1 a2 a3 a4 a5 : Nat) : Met l yX1_find (.code yX1_find cX1_find 6 none :: zT) ({ frames := 1, cells := 0, slots := 0, locals := 90 }) (va_Pc [.ref a0, .int 1, .int 1] (zPc G [zo a0 1 [.ref a3, .ref a1, .ref a2], zo a1 0 [.ref a4, .int 0], zo a2 0 [.ref a5, .int 0], zi G a3 64 (fun _ => 0)] sz)) ((fun A => va_Qv (fun (_ : Unit) => True) (fun (_ : Unit) t => zQ G [zo a0 1 [.ref a3, .ref a1, .ref a2], zo a1 0 [.ref a4, .int 0], zo a2 0 [.ref a5, .int 0], zi G a3 64 (fun _ => 0)] A t) A) (va_A [zo a0 1 [.ref a3, .ref a1, .ref a2], zo a1 0 [.ref a4, .int 0], zo a2 0 [.ref a5, .int 0], zi G a3 64 (fun _ => 0)] sz)) 0 0 (va_A [zo a0 1 [.ref a3, .ref a1, .ref a2], zo a1 0 [.ref a4, .int 0], zo a2 0 [.ref a5, .int 0], zi G a3 64 (fun _ => 0)] sz) := by
  refine z_start (y := yX1_find) (bytes := cX1_find) (maxL := 6) (ret := none) (av := [.ref a0, .int 1, .int 1]) (QA := (fun A => va_Qv (fun (_ : Unit) => True) (fun (_ : Unit) t => zQ G [zo a0 1 [.ref a3, .ref a1, .ref a2], zo a1 0 [.ref a4, .int 0], zo a2 0 [.ref a5, .int 0], zi G a3 64 (fun _ => 0)] A t) A)) (by decide) ⟨Nat.le_of_ble_eq_true rfl, trivial⟩ ?_
  intro p e s m below meth c A ls E B hr hlocks hin hl
  have hl : lv_has ls 6 [(0, .ref a0), (1, .int 1), (2, .int 1)] := hl
  have B : zB G A s.heap [zo a0 1 [.ref a3, .ref a1, .ref a2], zo a1 0 [.ref a4, .int 0], zo a2 0 [.ref a5, .int 0], zi G a3 64 (fun _ => 0)] s.heap [] := B
  refine lv_aload_n E.x E.b dX1_find_0 rfl (lv_at hl 0 rfl) ?_
  refine z_get E B z_inX1 (ci := 1) rfl 1 (by decide) t_291 0 rfl rfl dX1_find_1 ?_
  refine lv_iconst (v := 0) E.x E.b dX1_find_4 (by decide) ?_
  refine z_put E B z_inX0 tyX0 tyX0_ok nmX0 (ci := 0) rfl 1 (by decide) rfl (ty := .int) (by decide +kernel) t_249 1 rfl (Nat.le_of_ble_eq_true rfl) rfl rfl dX1_find_5 (fun H locs B => ?_)
  have B : zB G A s.heap [zo a0 1 [.ref a3, .ref a1, .ref a2], zo a1 0 [.ref a4, .int 0], zo a2 0 [.ref a5, .int 0], zi G a3 64 (fun _ => 0)] _ _ := B
  refine lv_aload_n E.x E.b dX1_find_8 rfl (lv_at hl 0 rfl) ?_
  refine z_get E B z_inX1 (ci := 1) rfl 2 (by decide) t_293 0 rfl rfl dX1_find_9 ?_
  refine lv_iconst (v := 0) E.x E.b dX1_find_12 (by decide) ?_
  refine z_put E B z_inX0 tyX0 tyX0_ok nmX0 (ci := 0) rfl 1 (by decide) rfl (ty := .int) (by decide +kernel) t_249 2 rfl (Nat.le_of_ble_eq_true rfl) rfl rfl dX1_find_13 (fun H locs B => ?_)
  have B : zB G A s.heap [zo a0 1 [.ref a3, .ref a1, .ref a2], zo a1 0 [.ref a4, .int 0], zo a2 0 [.ref a5, .int 0], zi G a3 64 (fun _ => 0)] _ _ := B
  refine lv_iconst (v := 0) E.x E.b dX1_find_16 (by decide) ?_
  refine lv_istore_n (lv' := [(3, .int 0), (0, .ref a0), (1, .int 1), (2, .int 1)]) E.x E.b dX1_find_17 rfl hl (by decide) rfl (fun ls hl => ?_)
  refine lv_iload_n E.x E.b dX1_find_18 rfl (lv_at hl 0 rfl) ?_
  refine lv_iload_n E.x E.b dX1_find_19 rfl (lv_at hl 2 rfl) ?_
  refine lv_icmp_ge (tgt := 101) E.x E.b dX1_find_20 (by decide) (fun c => absurd c (by decide +kernel)) (fun _ => ?_)
  refine lv_iload_n E.x E.b dX1_find_23 rfl (lv_at hl 0 rfl) ?_
  refine lv_aload_n E.x E.b dX1_find_24 rfl (lv_at hl 1 rfl) ?_
  refine z_get E B z_inX1 (ci := 1) rfl 0 (by decide) t_289 0 rfl rfl dX1_find_25 ?_
  refine z_ilen E B 3 rfl (v := 64) (by decide +kernel) dX1_find_28 ?_
  refine lv_icmp_ge (tgt := 101) E.x E.b dX1_find_29 (by decide) (fun c => absurd c (by decide +kernel)) (fun _ => ?_)
  refine lv_aload_n E.x E.b dX1_find_32 rfl (lv_at hl 1 rfl) ?_
  refine z_get E B z_inX1 (ci := 1) rfl 0 (by decide) t_289 0 rfl rfl dX1_find_33 ?_
  refine lv_iload_n E.x E.b dX1_find_36 rfl (lv_at hl 0 rfl) ?_
  refine z_iald E B 3 rfl (show ¬ ((0 : Int32) < 0 ∨ 64 ≤ (0 : Int32).toNatClampNeg) by decide +kernel) dX1_find_37 (z_topi 0 rfl ?_)
  refine lv_istore (lv' := [(4, .int 0), (3, .int 0), (0, .ref a0), (1, .int 1), (2, .int 1)]) E.x E.b dX1_find_38 hl (by decide) rfl (fun ls hl => ?_)
  refine lv_iload_n E.x E.b dX1_find_40 rfl (lv_at hl 4 rfl) ?_
  refine lv_if_eq (tgt := 53) E.x E.b dX1_find_41 (by decide) (fun c => absurd c (by decide +kernel)) (fun _ => ?_)
  refine lv_aload_n E.x E.b dX1_find_44 rfl (lv_at hl 2 rfl) ?_
  refine lv_iload_n E.x E.b dX1_find_45 rfl (lv_at hl 1 rfl) ?_
  refine lv_iload_n E.x E.b dX1_find_46 rfl (lv_at hl 3 rfl) ?_
  refine z_calli E B (wc := [zo a0 1 [.ref a3, .ref a1, .ref a2], zi G a3 64 (fun _ => 0)]) (wr := [zo a1 0 [.ref a4, .int 0], zo a2 0 [.ref a5, .int 0]]) [0, 3] [1, 2] rfl rfl (by decide) (by decide) (z_runV E B (As := [.int 0, .int 1]) (rest := []) [0, 3] rfl (by decide) mv_X1_sourceOf t_807 0 (ci := 1) rfl rfl rfl (c_X1_sourceOf_76 l G _ a0 a3 a1 a2) rfl rfl ⟨Nat.le_of_ble_eq_true rfl, Nat.le_of_ble_eq_true rfl⟩ rfl hl.1 rfl (Nat.le_of_ble_eq_true rfl) dX1_find_47 ⟨(Nat.le_of_ble_eq_true rfl), (Nat.le_of_ble_eq_true rfl)⟩) (fun r t H locs hp hB J => ?_)
  have hq := hB
  have B := J _ hq
  have B : zB G A s.heap [zo a1 0 [.ref a4, .int 0], zo a2 0 [.ref a5, .int 0], zo a0 1 [.ref a3, .ref a1, .ref a2], zi G a3 64 (fun _ => 0)] _ _ := B
  have hp := hp.symm
  subst hp
  refine lv_goto (tgt := 55) E.x E.b dX1_find_50 (by decide) ?_
  refine lv_istore (lv' := [(5, .int 0), (4, .int 0), (3, .int 0), (0, .ref a0), (1, .int 1), (2, .int 1)]) E.x E.b dX1_find_55 hl (by decide) rfl (fun ls hl => ?_)
  refine lv_iload_n E.x E.b dX1_find_57 rfl (lv_at hl 2 rfl) ?_
  refine lv_iload E.x E.b dX1_find_58 (lv_at hl 0 rfl) ?_
  refine lv_ixor E.x E.b dX1_find_60 (z_topi 0 (by decide +kernel) ?_)
  refine z_calli E B (wc := []) (wr := [zo a1 0 [.ref a4, .int 0], zo a2 0 [.ref a5, .int 0], zo a0 1 [.ref a3, .ref a1, .ref a2], zi G a3 64 (fun _ => 0)]) [] [0, 1, 2, 3] rfl rfl (by decide) (by decide) (z_runS E B (As := [.int 0]) (rest := []) [] rfl (by decide) ms_J6_bitCount_0f7a4 t_811 (c_J6_bitCount_0f7a4_71 l G _) rfl rfl ⟨Nat.le_of_ble_eq_true rfl, Nat.le_of_ble_eq_true rfl⟩ rfl hl.1 rfl (Nat.le_of_ble_eq_true rfl) dX1_find_61 ⟨(Nat.le_of_ble_eq_true rfl), (Nat.le_of_ble_eq_true rfl)⟩) (fun r t H locs hp hB J => ?_)
  have hq := hB
  have B := J _ hq
  have B : zB G A s.heap [zo a1 0 [.ref a4, .int 0], zo a2 0 [.ref a5, .int 0], zo a0 1 [.ref a3, .ref a1, .ref a2], zi G a3 64 (fun _ => 0)] _ _ := B
  have hp := hp.symm
  subst hp
  refine lv_iload_n E.x E.b dX1_find_64 rfl (lv_at hl 2 rfl) ?_
  refine lv_iload E.x E.b dX1_find_65 (lv_at hl 1 rfl) ?_
  refine lv_ixor E.x E.b dX1_find_67 (z_topi 0 (by decide +kernel) ?_)
  refine z_calli E B (wc := []) (wr := [zo a1 0 [.ref a4, .int 0], zo a2 0 [.ref a5, .int 0], zo a0 1 [.ref a3, .ref a1, .ref a2], zi G a3 64 (fun _ => 0)]) [] [0, 1, 2, 3] rfl rfl (by decide) (by decide) (z_runS E B (As := [.int 0]) (rest := [.int 0]) [] rfl (by decide) ms_J6_bitCount_0f7a4 t_811 (c_J6_bitCount_0f7a4_71 l G _) rfl rfl ⟨Nat.le_of_ble_eq_true rfl, Nat.le_of_ble_eq_true rfl⟩ rfl hl.1 rfl (Nat.le_of_ble_eq_true rfl) dX1_find_68 ⟨(Nat.le_of_ble_eq_true rfl), (Nat.le_of_ble_eq_true rfl)⟩) (fun r t H locs hp hB J => ?_)
  have hq := hB
  have B := J _ hq
  have B : zB G A s.heap [zo a1 0 [.ref a4, .int 0], zo a2 0 [.ref a5, .int 0], zo a0 1 [.ref a3, .ref a1, .ref a2], zi G a3 64 (fun _ => 0)] _ _ := B
  have hp := hp.symm
  subst hp
  refine lv_icmp_ge (tgt := 86) E.x E.b dX1_find_71 (by decide) (fun _ => ?_) (fun c => absurd (by decide +kernel) c)
  refine lv_aload_n E.x E.b dX1_find_86 rfl (lv_at hl 3 rfl) ?_
  refine lv_iload_n E.x E.b dX1_find_87 rfl (lv_at hl 2 rfl) ?_
  refine lv_iload E.x E.b dX1_find_88 (lv_at hl 1 rfl) ?_
  refine lv_iload_n E.x E.b dX1_find_90 rfl (lv_at hl 4 rfl) ?_
  refine lv_iconst (v := 0) E.x E.b dX1_find_91 (by decide) ?_
  refine z_callv E B (wc := [zo a0 1 [.ref a3, .ref a1, .ref a2]]) (wr := [zo a1 0 [.ref a4, .int 0], zo a2 0 [.ref a5, .int 0], zi G a3 64 (fun _ => 0)]) [2] [0, 1, 3] rfl rfl (by decide) (by decide) (z_runV E B (As := [.int 0, .int 0, .int 1, .int 0]) (rest := []) [2] rfl (by decide) mv_X1_lead t_812 0 (ci := 1) rfl rfl rfl (c_X1_lead_72 l G _ a0 a3 a1 a2) rfl rfl ⟨Nat.le_of_ble_eq_true rfl, Nat.le_of_ble_eq_true rfl⟩ rfl hl.1 rfl (Nat.le_of_ble_eq_true rfl) dX1_find_92 ⟨(Nat.le_of_ble_eq_true rfl), (Nat.le_of_ble_eq_true rfl)⟩) (fun  t H locs hp hB J => ?_)
  have hq := hB
  have B := J _ hq
  have B : zB G A s.heap [zo a1 0 [.ref a4, .int 0], zo a2 0 [.ref a5, .int 0], zi G a3 64 (fun _ => 0), zo a0 1 [.ref a3, .ref a1, .ref a2]] _ _ := B
  refine lv_iinc (v := 1) (lv' := [(3, .int 1), (5, .int 0), (4, .int 0), (0, .ref a0), (1, .int 1), (2, .int 1)]) E.x E.b dX1_find_95 hl (k := 2) rfl (by decide +kernel) (by decide) rfl (fun ls hl => ?_)
  refine lv_goto (tgt := 18) E.x E.b dX1_find_98 (by decide) ?_
  refine lv_iload_n E.x E.b dX1_find_18 rfl (lv_at hl 0 rfl) ?_
  refine lv_iload_n E.x E.b dX1_find_19 rfl (lv_at hl 4 rfl) ?_
  refine lv_icmp_ge (tgt := 101) E.x E.b dX1_find_20 (by decide) (fun _ => ?_) (fun c => absurd (by decide +kernel) c)
  refine lv_aload_n E.x E.b dX1_find_101 rfl (lv_at hl 3 rfl) ?_
  refine z_get E B z_inX1 (ci := 1) rfl 2 (by decide) t_293 3 rfl rfl dX1_find_102 ?_
  refine z_get E B z_inX0 (ci := 0) rfl 1 (by decide) t_249 1 rfl rfl dX1_find_105 ?_
  refine lv_iconst (v := 1) E.x E.b dX1_find_108 (by decide) ?_
  refine lv_isub E.x E.b dX1_find_109 (z_topi (-1) (by decide +kernel) ?_)
  refine lv_istore_n (lv' := [(3, .int (-1)), (5, .int 0), (4, .int 0), (0, .ref a0), (1, .int 1), (2, .int 1)]) E.x E.b dX1_find_110 rfl hl (by decide) rfl (fun ls hl => ?_)
  refine lv_iload_n E.x E.b dX1_find_111 rfl (lv_at hl 0 rfl) ?_
  refine lv_if_lt (tgt := 136) E.x E.b dX1_find_112 (by decide) (fun _ => ?_) (fun c => absurd (by decide +kernel) c)
  refine W.widen (k := 0) (n := 0) (Nat.le_of_ble_eq_true rfl) (Nat.le_of_ble_eq_true rfl) ?_
  exact z_vret E hr hlocks B trivial (fun t ht => z_q B [3, 0, 1, 2] (by decide) rfl ht) dX1_find_136
set_option maxHeartbeats 4000000 in
set_option maxRecDepth 100000 in
theorem c_X11_foundCascade_78 (l : Launch) (G : zGT) (sz : Nat) (a0 a1 a2 a3 a4 a5 a6 a7 a8 a9 a10 a11 a12 a13 a14 a15 a16 a17 a18 a19 : Nat) : Met l yX11_foundCascade (.code yX11_foundCascade cX11_foundCascade 2 (some (.object "BackLogic$Cascade")) :: zT) ({ frames := 2, cells := 0, slots := 0, locals := 115 }) (va_Pc [.ref a0, .int 1] (zPc G [zo a0 9 [.ref a6, .ref a7, .ref a8, .ref a2, .ref a9, .ref a10, .ref a11, .ref a12, .ref a1, .ref a13, .ref a14, .ref a15, .ref a16, .null, .int 0, .int (-1)], zo a1 1 [.ref a3, .ref a4, .ref a5], zo a2 0 [.ref a17, .int 0], zi G a3 64 (fun _ => 0), zo a4 0 [.ref a18, .int 0], zo a5 0 [.ref a19, .int 0]] sz)) ((fun A => va_Qr (fun (_ : Unit) => True) (fun (_ : Unit) r t => r = a4 ∧ zQ G [zo a0 9 [.ref a6, .ref a7, .ref a8, .ref a2, .ref a9, .ref a10, .ref a11, .ref a12, .ref a1, .ref a13, .ref a14, .ref a15, .ref a16, .null, .int 0, .int (-1)], zo a1 1 [.ref a3, .ref a4, .ref a5], zo a2 0 [.ref a17, .int 0], zi G a3 64 (fun _ => 0), zo a4 0 [.ref a18, .int 0], zo a5 0 [.ref a19, .int 0]] A t) A) (va_A [zo a0 9 [.ref a6, .ref a7, .ref a8, .ref a2, .ref a9, .ref a10, .ref a11, .ref a12, .ref a1, .ref a13, .ref a14, .ref a15, .ref a16, .null, .int 0, .int (-1)], zo a1 1 [.ref a3, .ref a4, .ref a5], zo a2 0 [.ref a17, .int 0], zi G a3 64 (fun _ => 0), zo a4 0 [.ref a18, .int 0], zo a5 0 [.ref a19, .int 0]] sz)) 0 0 (va_A [zo a0 9 [.ref a6, .ref a7, .ref a8, .ref a2, .ref a9, .ref a10, .ref a11, .ref a12, .ref a1, .ref a13, .ref a14, .ref a15, .ref a16, .null, .int 0, .int (-1)], zo a1 1 [.ref a3, .ref a4, .ref a5], zo a2 0 [.ref a17, .int 0], zi G a3 64 (fun _ => 0), zo a4 0 [.ref a18, .int 0], zo a5 0 [.ref a19, .int 0]] sz) := by
  refine z_start (y := yX11_foundCascade) (bytes := cX11_foundCascade) (maxL := 2) (ret := (some (.object "BackLogic$Cascade"))) (av := [.ref a0, .int 1]) (QA := (fun A => va_Qr (fun (_ : Unit) => True) (fun (_ : Unit) r t => r = a4 ∧ zQ G [zo a0 9 [.ref a6, .ref a7, .ref a8, .ref a2, .ref a9, .ref a10, .ref a11, .ref a12, .ref a1, .ref a13, .ref a14, .ref a15, .ref a16, .null, .int 0, .int (-1)], zo a1 1 [.ref a3, .ref a4, .ref a5], zo a2 0 [.ref a17, .int 0], zi G a3 64 (fun _ => 0), zo a4 0 [.ref a18, .int 0], zo a5 0 [.ref a19, .int 0]] A t) A)) (by decide) ⟨Nat.le_of_ble_eq_true rfl, trivial⟩ ?_
  intro p e s m below meth c A ls E B hr hlocks hin hl
  have hl : lv_has ls 2 [(0, .ref a0), (1, .int 1)] := hl
  have B : zB G A s.heap [zo a0 9 [.ref a6, .ref a7, .ref a8, .ref a2, .ref a9, .ref a10, .ref a11, .ref a12, .ref a1, .ref a13, .ref a14, .ref a15, .ref a16, .null, .int 0, .int (-1)], zo a1 1 [.ref a3, .ref a4, .ref a5], zo a2 0 [.ref a17, .int 0], zi G a3 64 (fun _ => 0), zo a4 0 [.ref a18, .int 0], zo a5 0 [.ref a19, .int 0]] s.heap [] := B
  refine lv_aload_n E.x E.b dX11_foundCascade_0 rfl (lv_at hl 0 rfl) ?_
  refine z_get E B z_inX11 (ci := 9) rfl 3 (by decide) t_372 0 rfl rfl dX11_foundCascade_1 ?_
  refine lv_aload_n E.x E.b dX11_foundCascade_4 rfl (lv_at hl 0 rfl) ?_
  refine z_calli E B (wc := [zo a0 9 [.ref a6, .ref a7, .ref a8, .ref a2, .ref a9, .ref a10, .ref a11, .ref a12, .ref a1, .ref a13, .ref a14, .ref a15, .ref a16, .null, .int 0, .int (-1)]]) (wr := [zo a1 1 [.ref a3, .ref a4, .ref a5], zo a2 0 [.ref a17, .int 0], zi G a3 64 (fun _ => 0), zo a4 0 [.ref a18, .int 0], zo a5 0 [.ref a19, .int 0]]) [0] [1, 2, 3, 4, 5] rfl rfl (by decide) (by decide) (z_runV E B (As := []) (rest := [.ref a2]) [0] rfl (by decide) mv_X11_rows t_687 0 (ci := 9) rfl rfl rfl (c_X11_rows_65 l G _ a0 a6 a7 a8 a2 a9 a10 a11 a12 a1 a13 a14 a15 a16) rfl rfl ⟨Nat.le_of_ble_eq_true rfl, Nat.le_of_ble_eq_true rfl⟩ rfl hl.1 rfl (Nat.le_of_ble_eq_true rfl) dX11_foundCascade_5 ⟨(Nat.le_of_ble_eq_true rfl), (Nat.le_of_ble_eq_true rfl)⟩) (fun r t H locs hp hB J => ?_)
  have hq := hB
  have B := J _ hq
  have B : zB G A s.heap [zo a1 1 [.ref a3, .ref a4, .ref a5], zo a2 0 [.ref a17, .int 0], zi G a3 64 (fun _ => 0), zo a4 0 [.ref a18, .int 0], zo a5 0 [.ref a19, .int 0], zo a0 9 [.ref a6, .ref a7, .ref a8, .ref a2, .ref a9, .ref a10, .ref a11, .ref a12, .ref a1, .ref a13, .ref a14, .ref a15, .ref a16, .null, .int 0, .int (-1)]] _ _ := B
  have hp := hp.symm
  subst hp
  refine lv_aload_n E.x E.b dX11_foundCascade_8 rfl (lv_at hl 0 rfl) ?_
  refine z_get E B z_inX11 (ci := 9) rfl 8 (by decide) t_377 5 rfl rfl dX11_foundCascade_9 ?_
  refine z_get E B z_inX1 (ci := 1) rfl 0 (by decide) t_290 0 rfl rfl dX11_foundCascade_12 ?_
  refine z_callv E B (wc := [zo a2 0 [.ref a17, .int 0], zi G a3 64 (fun _ => 0)]) (wr := [zo a1 1 [.ref a3, .ref a4, .ref a5], zo a4 0 [.ref a18, .int 0], zo a5 0 [.ref a19, .int 0], zo a0 9 [.ref a6, .ref a7, .ref a8, .ref a2, .ref a9, .ref a10, .ref a11, .ref a12, .ref a1, .ref a13, .ref a14, .ref a15, .ref a16, .null, .int 0, .int (-1)]]) [1, 2] [0, 3, 4, 5] rfl rfl (by decide) (by decide) (z_runV E B (As := [.int 1, .ref a3]) (rest := []) [1, 2] rfl (by decide) mv_X0_makeOrder t_794 0 (ci := 0) rfl rfl rfl (c_X0_makeOrder_70 l G _ a2 a3 a17) rfl rfl ⟨Nat.le_of_ble_eq_true rfl, Nat.le_of_ble_eq_true rfl⟩ rfl hl.1 rfl (Nat.le_of_ble_eq_true rfl) dX11_foundCascade_15 ⟨(Nat.le_of_ble_eq_true rfl), (Nat.le_of_ble_eq_true rfl)⟩) (fun  t H locs hp hB J => ?_)
  have hq := hB
  have B := J _ hq
  have B : zB G A s.heap [zo a1 1 [.ref a3, .ref a4, .ref a5], zo a4 0 [.ref a18, .int 0], zo a5 0 [.ref a19, .int 0], zo a0 9 [.ref a6, .ref a7, .ref a8, .ref a2, .ref a9, .ref a10, .ref a11, .ref a12, .ref a1, .ref a13, .ref a14, .ref a15, .ref a16, .null, .int 0, .int (-1)], zo a2 0 [.ref a17, .int 0], zi G a3 64 (fun _ => 0)] _ _ := B
  refine lv_aload_n E.x E.b dX11_foundCascade_18 rfl (lv_at hl 0 rfl) ?_
  refine z_get E B z_inX11 (ci := 9) rfl 8 (by decide) t_377 3 rfl rfl dX11_foundCascade_19 ?_
  refine lv_aload_n E.x E.b dX11_foundCascade_22 rfl (lv_at hl 0 rfl) ?_
  refine z_calli E B (wc := [zo a0 9 [.ref a6, .ref a7, .ref a8, .ref a2, .ref a9, .ref a10, .ref a11, .ref a12, .ref a1, .ref a13, .ref a14, .ref a15, .ref a16, .null, .int 0, .int (-1)]]) (wr := [zo a1 1 [.ref a3, .ref a4, .ref a5], zo a4 0 [.ref a18, .int 0], zo a5 0 [.ref a19, .int 0], zo a2 0 [.ref a17, .int 0], zi G a3 64 (fun _ => 0)]) [3] [0, 1, 2, 4, 5] rfl rfl (by decide) (by decide) (z_runV E B (As := []) (rest := [.ref a1]) [3] rfl (by decide) mv_X11_rows t_687 0 (ci := 9) rfl rfl rfl (c_X11_rows_65 l G _ a0 a6 a7 a8 a2 a9 a10 a11 a12 a1 a13 a14 a15 a16) rfl rfl ⟨Nat.le_of_ble_eq_true rfl, Nat.le_of_ble_eq_true rfl⟩ rfl hl.1 rfl (Nat.le_of_ble_eq_true rfl) dX11_foundCascade_23 ⟨(Nat.le_of_ble_eq_true rfl), (Nat.le_of_ble_eq_true rfl)⟩) (fun r t H locs hp hB J => ?_)
  have hq := hB
  have B := J _ hq
  have B : zB G A s.heap [zo a1 1 [.ref a3, .ref a4, .ref a5], zo a4 0 [.ref a18, .int 0], zo a5 0 [.ref a19, .int 0], zo a2 0 [.ref a17, .int 0], zi G a3 64 (fun _ => 0), zo a0 9 [.ref a6, .ref a7, .ref a8, .ref a2, .ref a9, .ref a10, .ref a11, .ref a12, .ref a1, .ref a13, .ref a14, .ref a15, .ref a16, .null, .int 0, .int (-1)]] _ _ := B
  have hp := hp.symm
  subst hp
  refine lv_iload_n E.x E.b dX11_foundCascade_26 rfl (lv_at hl 1 rfl) ?_
  refine z_callv E B (wc := [zo a1 1 [.ref a3, .ref a4, .ref a5], zo a4 0 [.ref a18, .int 0], zo a5 0 [.ref a19, .int 0], zi G a3 64 (fun _ => 0)]) (wr := [zo a2 0 [.ref a17, .int 0], zo a0 9 [.ref a6, .ref a7, .ref a8, .ref a2, .ref a9, .ref a10, .ref a11, .ref a12, .ref a1, .ref a13, .ref a14, .ref a15, .ref a16, .null, .int 0, .int (-1)]]) [0, 1, 2, 4] [3, 5] rfl rfl (by decide) (by decide) (z_runV E B (As := [.int 1, .int 1]) (rest := []) [0, 1, 2, 4] rfl (by decide) mv_X1_find t_803 0 (ci := 1) rfl rfl rfl (c_X1_find_77 l G _ a1 a4 a5 a3 a18 a19) rfl rfl ⟨Nat.le_of_ble_eq_true rfl, Nat.le_of_ble_eq_true rfl⟩ rfl hl.1 rfl (Nat.le_of_ble_eq_true rfl) dX11_foundCascade_27 ⟨(Nat.le_of_ble_eq_true rfl), (Nat.le_of_ble_eq_true rfl)⟩) (fun  t H locs hp hB J => ?_)
  have hq := hB
  have B := J _ hq
  have B : zB G A s.heap [zo a2 0 [.ref a17, .int 0], zo a0 9 [.ref a6, .ref a7, .ref a8, .ref a2, .ref a9, .ref a10, .ref a11, .ref a12, .ref a1, .ref a13, .ref a14, .ref a15, .ref a16, .null, .int 0, .int (-1)], zo a1 1 [.ref a3, .ref a4, .ref a5], zo a4 0 [.ref a18, .int 0], zo a5 0 [.ref a19, .int 0], zi G a3 64 (fun _ => 0)] _ _ := B
  refine lv_aload_n E.x E.b dX11_foundCascade_30 rfl (lv_at hl 0 rfl) ?_
  refine z_get E B z_inX11 (ci := 9) rfl 8 (by decide) t_377 1 rfl rfl dX11_foundCascade_31 ?_
  refine z_get E B z_inX1 (ci := 1) rfl 1 (by decide) t_292 2 rfl rfl dX11_foundCascade_34 ?_
  refine W.widen (k := 0) (n := 0) (Nat.le_of_ble_eq_true rfl) (Nat.le_of_ble_eq_true rfl) ?_
  exact z_aret E hr (Or.inl ⟨_, rfl⟩) hlocks B trivial (fun t ht => ⟨rfl, z_q B [1, 2, 0, 5, 3, 4] (by decide) rfl ht⟩) dX11_foundCascade_37
set_option maxHeartbeats 4000000 in
set_option maxRecDepth 100000 in
theorem c_X0_turnRound_79 (l : Launch) (G : zGT) (sz : Nat) (a0 a1 : Nat) : Met l yX0_turnRound (.code yX0_turnRound cX0_turnRound 4 none :: zT) ({ frames := 0, cells := 0, slots := 0, locals := 64 }) (va_Pc [.ref a0] (zPc G [zo a0 0 [.ref a1, .int 0]] sz)) ((fun A => va_Qv (fun (_ : Unit) => True) (fun (_ : Unit) t => zQ G [zo a0 0 [.ref a1, .int 0]] A t) A) (va_A [zo a0 0 [.ref a1, .int 0]] sz)) 0 0 (va_A [zo a0 0 [.ref a1, .int 0]] sz) := by
  refine z_start (y := yX0_turnRound) (bytes := cX0_turnRound) (maxL := 4) (ret := none) (av := [.ref a0]) (QA := (fun A => va_Qv (fun (_ : Unit) => True) (fun (_ : Unit) t => zQ G [zo a0 0 [.ref a1, .int 0]] A t) A)) (by decide) ⟨Nat.le_of_ble_eq_true rfl, trivial⟩ ?_
  intro p e s m below meth c A ls E B hr hlocks hin hl
  have hl : lv_has ls 4 [(0, .ref a0)] := hl
  have B : zB G A s.heap [zo a0 0 [.ref a1, .int 0]] s.heap [] := B
  refine lv_iconst (v := 0) E.x E.b dX0_turnRound_0 (by decide) ?_
  refine lv_istore_n (lv' := [(1, .int 0), (0, .ref a0)]) E.x E.b dX0_turnRound_1 rfl hl (by decide) rfl (fun ls hl => ?_)
  refine lv_aload_n E.x E.b dX0_turnRound_2 rfl (lv_at hl 1 rfl) ?_
  refine z_get E B z_inX0 (ci := 0) rfl 1 (by decide) t_250 0 rfl rfl dX0_turnRound_3 ?_
  refine lv_iconst (v := 1) E.x E.b dX0_turnRound_6 (by decide) ?_
  refine lv_isub E.x E.b dX0_turnRound_7 (z_topi (-1) (by decide +kernel) ?_)
  refine lv_istore_n (lv' := [(2, .int (-1)), (1, .int 0), (0, .ref a0)]) E.x E.b dX0_turnRound_8 rfl hl (by decide) rfl (fun ls hl => ?_)
  refine lv_iload_n E.x E.b dX0_turnRound_9 rfl (lv_at hl 1 rfl) ?_
  refine lv_iload_n E.x E.b dX0_turnRound_10 rfl (lv_at hl 0 rfl) ?_
  refine lv_icmp_ge (tgt := 49) E.x E.b dX0_turnRound_11 (by decide) (fun _ => ?_) (fun c => absurd (by decide +kernel) c)
  refine W.widen (k := 0) (n := 0) (Nat.le_of_ble_eq_true rfl) (Nat.le_of_ble_eq_true rfl) ?_
  exact z_vret E hr hlocks B trivial (fun t ht => z_q B [0] (by decide) rfl ht) dX0_turnRound_49
set_option maxHeartbeats 4000000 in
set_option maxRecDepth 100000 in
theorem c_X11_turnedCascade_80 (l : Launch) (G : zGT) (sz : Nat) (a0 a1 a2 a3 a4 a5 a6 a7 a8 a9 a10 a11 a12 a13 a14 a15 : Nat) : Met l yX11_turnedCascade (.code yX11_turnedCascade cX11_turnedCascade 1 (some (.object "BackLogic$Cascade")) :: zT) ({ frames := 2, cells := 0, slots := 0, locals := 87 }) (va_Pc [.ref a0] (zPc G [zo a0 9 [.ref a5, .ref a6, .ref a7, .ref a2, .ref a1, .ref a8, .ref a9, .ref a10, .ref a11, .ref a12, .ref a13, .ref a14, .ref a15, .null, .int 0, .int (-1)], zo a1 0 [.ref a3, .int 0], zo a2 0 [.ref a4, .int 0], zi G a3 16 (fun _ => 0), zi G a4 16 (fun _ => 0)] sz)) ((fun A => va_Qr (fun (_ : Unit) => True) (fun (_ : Unit) r t => r = a1 ∧ zQ G [zo a0 9 [.ref a5, .ref a6, .ref a7, .ref a2, .ref a1, .ref a8, .ref a9, .ref a10, .ref a11, .ref a12, .ref a13, .ref a14, .ref a15, .null, .int 0, .int (-1)], zo a1 0 [.ref a3, .int 0], zo a2 0 [.ref a4, .int 0], zi G a3 16 (fun _ => 0), zi G a4 16 (fun _ => 0)] A t) A) (va_A [zo a0 9 [.ref a5, .ref a6, .ref a7, .ref a2, .ref a1, .ref a8, .ref a9, .ref a10, .ref a11, .ref a12, .ref a13, .ref a14, .ref a15, .null, .int 0, .int (-1)], zo a1 0 [.ref a3, .int 0], zo a2 0 [.ref a4, .int 0], zi G a3 16 (fun _ => 0), zi G a4 16 (fun _ => 0)] sz)) 0 0 (va_A [zo a0 9 [.ref a5, .ref a6, .ref a7, .ref a2, .ref a1, .ref a8, .ref a9, .ref a10, .ref a11, .ref a12, .ref a13, .ref a14, .ref a15, .null, .int 0, .int (-1)], zo a1 0 [.ref a3, .int 0], zo a2 0 [.ref a4, .int 0], zi G a3 16 (fun _ => 0), zi G a4 16 (fun _ => 0)] sz) := by
  refine z_start (y := yX11_turnedCascade) (bytes := cX11_turnedCascade) (maxL := 1) (ret := (some (.object "BackLogic$Cascade"))) (av := [.ref a0]) (QA := (fun A => va_Qr (fun (_ : Unit) => True) (fun (_ : Unit) r t => r = a1 ∧ zQ G [zo a0 9 [.ref a5, .ref a6, .ref a7, .ref a2, .ref a1, .ref a8, .ref a9, .ref a10, .ref a11, .ref a12, .ref a13, .ref a14, .ref a15, .null, .int 0, .int (-1)], zo a1 0 [.ref a3, .int 0], zo a2 0 [.ref a4, .int 0], zi G a3 16 (fun _ => 0), zi G a4 16 (fun _ => 0)] A t) A)) (by decide) ⟨Nat.le_of_ble_eq_true rfl, trivial⟩ ?_
  intro p e s m below meth c A ls E B hr hlocks hin hl
  have hl : lv_has ls 1 [(0, .ref a0)] := hl
  have B : zB G A s.heap [zo a0 9 [.ref a5, .ref a6, .ref a7, .ref a2, .ref a1, .ref a8, .ref a9, .ref a10, .ref a11, .ref a12, .ref a13, .ref a14, .ref a15, .null, .int 0, .int (-1)], zo a1 0 [.ref a3, .int 0], zo a2 0 [.ref a4, .int 0], zi G a3 16 (fun _ => 0), zi G a4 16 (fun _ => 0)] s.heap [] := B
  refine lv_aload_n E.x E.b dX11_turnedCascade_0 rfl (lv_at hl 0 rfl) ?_
  refine z_get E B z_inX11 (ci := 9) rfl 4 (by decide) t_373 0 rfl rfl dX11_turnedCascade_1 ?_
  refine lv_aload_n E.x E.b dX11_turnedCascade_4 rfl (lv_at hl 0 rfl) ?_
  refine z_get E B z_inX11 (ci := 9) rfl 3 (by decide) t_372 0 rfl rfl dX11_turnedCascade_5 ?_
  refine z_callv E B (wc := [zo a1 0 [.ref a3, .int 0], zo a2 0 [.ref a4, .int 0], zi G a3 16 (fun _ => 0), zi G a4 16 (fun _ => 0)]) (wr := [zo a0 9 [.ref a5, .ref a6, .ref a7, .ref a2, .ref a1, .ref a8, .ref a9, .ref a10, .ref a11, .ref a12, .ref a13, .ref a14, .ref a15, .null, .int 0, .int (-1)]]) [1, 2, 3, 4] [0] rfl rfl (by decide) (by decide) (z_runV E B (As := [.ref a2]) (rest := []) [1, 2, 3, 4] rfl (by decide) mv_X0_copy t_734 0 (ci := 0) rfl rfl rfl (c_X0_copy_64 l G _ a1 a2 a3 a4) rfl rfl ⟨Nat.le_of_ble_eq_true rfl, Nat.le_of_ble_eq_true rfl⟩ rfl hl.1 rfl (Nat.le_of_ble_eq_true rfl) dX11_turnedCascade_8 ⟨(Nat.le_of_ble_eq_true rfl), (Nat.le_of_ble_eq_true rfl)⟩) (fun  t H locs hp hB J => ?_)
  have hq := hB
  have B := J _ hq
  have B : zB G A s.heap [zo a0 9 [.ref a5, .ref a6, .ref a7, .ref a2, .ref a1, .ref a8, .ref a9, .ref a10, .ref a11, .ref a12, .ref a13, .ref a14, .ref a15, .null, .int 0, .int (-1)], zo a1 0 [.ref a3, .int 0], zo a2 0 [.ref a4, .int 0], zi G a3 16 (fun _ => 0), zi G a4 16 (fun _ => 0)] _ _ := B
  refine lv_aload_n E.x E.b dX11_turnedCascade_11 rfl (lv_at hl 0 rfl) ?_
  refine z_get E B z_inX11 (ci := 9) rfl 4 (by decide) t_373 0 rfl rfl dX11_turnedCascade_12 ?_
  refine z_callv E B (wc := [zo a1 0 [.ref a3, .int 0]]) (wr := [zo a0 9 [.ref a5, .ref a6, .ref a7, .ref a2, .ref a1, .ref a8, .ref a9, .ref a10, .ref a11, .ref a12, .ref a13, .ref a14, .ref a15, .null, .int 0, .int (-1)], zo a2 0 [.ref a4, .int 0], zi G a3 16 (fun _ => 0), zi G a4 16 (fun _ => 0)]) [1] [0, 2, 3, 4] rfl rfl (by decide) (by decide) (z_runV E B (As := []) (rest := []) [1] rfl (by decide) mv_X0_turnRound t_836 0 (ci := 0) rfl rfl rfl (c_X0_turnRound_79 l G _ a1 a3) rfl rfl ⟨Nat.le_of_ble_eq_true rfl, Nat.le_of_ble_eq_true rfl⟩ rfl hl.1 rfl (Nat.le_of_ble_eq_true rfl) dX11_turnedCascade_15 ⟨(Nat.le_of_ble_eq_true rfl), (Nat.le_of_ble_eq_true rfl)⟩) (fun  t H locs hp hB J => ?_)
  have hq := hB
  have B := J _ hq
  have B : zB G A s.heap [zo a0 9 [.ref a5, .ref a6, .ref a7, .ref a2, .ref a1, .ref a8, .ref a9, .ref a10, .ref a11, .ref a12, .ref a13, .ref a14, .ref a15, .null, .int 0, .int (-1)], zo a2 0 [.ref a4, .int 0], zi G a3 16 (fun _ => 0), zi G a4 16 (fun _ => 0), zo a1 0 [.ref a3, .int 0]] _ _ := B
  refine lv_aload_n E.x E.b dX11_turnedCascade_18 rfl (lv_at hl 0 rfl) ?_
  refine z_get E B z_inX11 (ci := 9) rfl 4 (by decide) t_373 0 rfl rfl dX11_turnedCascade_19 ?_
  refine W.widen (k := 0) (n := 0) (Nat.le_of_ble_eq_true rfl) (Nat.le_of_ble_eq_true rfl) ?_
  exact z_aret E hr (Or.inl ⟨_, rfl⟩) hlocks B trivial (fun t ht => ⟨rfl, z_q B [0, 4, 1, 2, 3] (by decide) rfl ht⟩) dX11_turnedCascade_22
set_option maxHeartbeats 4000000 in
set_option maxRecDepth 100000 in
theorem c_X0_init_81 (l : Launch) (G : zGT) (sz : Nat) (a0 : Nat) : Met l yX0_init (.code yX0_init cX0_init 2 none :: zT) ({ frames := 1, cells := 1, slots := 8, locals := 64 }) (va_Pc [.ref a0, .int 8] (zPc G [zo a0 0 [.null, .int 0]] sz)) ((fun A => va_Qv (fun (_ : Unit) => True) (fun (_ : Unit) t => ∃ (q_1 : Nat), zQ G [zo a0 0 [.ref q_1, .int 0], zi G q_1 8 (fun _ => 0)] A t) A) (va_A [zo a0 0 [.null, .int 0]] sz)) 1 8 (va_A [zo a0 0 [.null, .int 0]] sz) := by
  refine z_start (y := yX0_init) (bytes := cX0_init) (maxL := 2) (ret := none) (av := [.ref a0, .int 8]) (QA := (fun A => va_Qv (fun (_ : Unit) => True) (fun (_ : Unit) t => ∃ (q_1 : Nat), zQ G [zo a0 0 [.ref q_1, .int 0], zi G q_1 8 (fun _ => 0)] A t) A)) (by decide) ⟨Nat.le_of_ble_eq_true rfl, trivial⟩ ?_
  intro p e s m below meth c A ls E B hr hlocks hin hl
  have hl : lv_has ls 2 [(0, .ref a0), (1, .int 8)] := hl
  have B : zB G A s.heap [zo a0 0 [.null, .int 0]] s.heap [] := B
  refine lv_aload_n E.x E.b dX0_init_0 rfl (lv_at hl 0 rfl) ?_
  refine z_objInit E (lv_sub hl [] rfl) t_244 t_148 t_objcode dX0_init_1 (Nat.le_of_ble_eq_true rfl) (Nat.le_of_ble_eq_true rfl) ?_
  refine lv_aload_n E.x E.b dX0_init_4 rfl (lv_at hl 0 rfl) ?_
  refine lv_iload_n E.x E.b dX0_init_5 rfl (lv_at hl 1 rfl) ?_
  refine lv_iconst (v := 0) E.x E.b dX0_init_6 (by decide) ?_
  refine va_mmax E.x E.b (E.1.2.2.1.trans hl.1.symm) E.ow (E.w t_mlX0_9) (E.w t_mmax1) (E.w t_127) (E.w t_mmax2) (Nat.le_of_ble_eq_true rfl) (Nat.le_of_ble_eq_true rfl) (Nat.le_of_ble_eq_true rfl) (Nat.le_of_ble_eq_true rfl) dX0_init_7 (z_topi 8 (by decide +kernel) ?_)
  refine z_newI E B t_193 (N' := 8) (by decide) (by decide +kernel) (by decide) (Nat.le_of_ble_eq_true rfl) (Nat.le_of_ble_eq_true rfl) dX0_init_10 (fun q_1 H B => ?_)
  have B : zB G A s.heap [zo a0 0 [.null, .int 0], zi G q_1 8 (fun _ => 0)] _ _ := B
  refine z_putF E B z_inX0 tyX0 tyX0_ok nmX0 (ci := 0) rfl 0 (by decide) rfl (ty := (.array .int)) (by decide +kernel) t_248 rfl hin 0 rfl (Nat.le_of_ble_eq_true rfl) rfl rfl dX0_init_12 (fun H locs B => ?_)
  have B : zB G A s.heap [zo a0 0 [.ref q_1, .int 0], zi G q_1 8 (fun _ => 0)] _ _ := B
  refine W.widen (k := 1) (n := 8) (Nat.le_of_ble_eq_true rfl) (Nat.le_of_ble_eq_true rfl) ?_
  exact z_vret E hr hlocks B trivial (fun t ht => ⟨q_1, z_q B [0, 1] (by decide) rfl ht⟩) dX0_init_15
set_option maxHeartbeats 4000000 in
set_option maxRecDepth 100000 in
theorem c_X7_init_82 (l : Launch) (G : zGT) (sz : Nat) (a0 : Nat) : Met l yX7_init (.code yX7_init cX7_init 1 none :: zT) ({ frames := 2, cells := 7, slots := 11838, locals := 85 }) (va_Pc [.ref a0] (zPc G [zo a0 5 [.null, .null, .null, .null, .null, .null, .int 0, .int 0, .int 0, .int 0]] sz)) ((fun A => va_Qv (fun (_ : Unit) => True) (fun (_ : Unit) t => ∃ (q_1 : Nat) (q_3 : Nat) (q_4 : Nat) (q_5 : Nat) (q_6 : Nat) (q_7 : Nat) (q_2 : Nat), zQ G [zo a0 5 [.ref q_1, .ref q_3, .ref q_4, .ref q_5, .ref q_6, .ref q_7, .int 0, .int 0, .int (-1), .int (-1)], zo q_1 0 [.ref q_2, .int 0], zi G q_2 8 (fun _ => 0), zi G q_3 8192 (fun _ => 0), zi G q_4 3600 (fun _ => 0), zi G q_5 12 (fun _ => 0), zi G q_6 12 (fun _ => 0), zi G q_7 12 (fun _ => 0)] A t) A) (va_A [zo a0 5 [.null, .null, .null, .null, .null, .null, .int 0, .int 0, .int 0, .int 0]] sz)) 7 11838 (va_A [zo a0 5 [.null, .null, .null, .null, .null, .null, .int 0, .int 0, .int 0, .int 0]] sz) := by
  refine z_start (y := yX7_init) (bytes := cX7_init) (maxL := 1) (ret := none) (av := [.ref a0]) (QA := (fun A => va_Qv (fun (_ : Unit) => True) (fun (_ : Unit) t => ∃ (q_1 : Nat) (q_3 : Nat) (q_4 : Nat) (q_5 : Nat) (q_6 : Nat) (q_7 : Nat) (q_2 : Nat), zQ G [zo a0 5 [.ref q_1, .ref q_3, .ref q_4, .ref q_5, .ref q_6, .ref q_7, .int 0, .int 0, .int (-1), .int (-1)], zo q_1 0 [.ref q_2, .int 0], zi G q_2 8 (fun _ => 0), zi G q_3 8192 (fun _ => 0), zi G q_4 3600 (fun _ => 0), zi G q_5 12 (fun _ => 0), zi G q_6 12 (fun _ => 0), zi G q_7 12 (fun _ => 0)] A t) A)) (by decide) ⟨Nat.le_of_ble_eq_true rfl, trivial⟩ ?_
  intro p e s m below meth c A ls E B hr hlocks hin hl
  have hl : lv_has ls 1 [(0, .ref a0)] := hl
  have B : zB G A s.heap [zo a0 5 [.null, .null, .null, .null, .null, .null, .int 0, .int 0, .int 0, .int 0]] s.heap [] := B
  refine lv_aload_n E.x E.b dX7_init_0 rfl (lv_at hl 0 rfl) ?_
  refine z_objInit E (lv_sub hl [] rfl) t_853 t_148 t_objcode dX7_init_1 (Nat.le_of_ble_eq_true rfl) (Nat.le_of_ble_eq_true rfl) ?_
  refine lv_aload_n E.x E.b dX7_init_4 rfl (lv_at hl 0 rfl) ?_
  refine z_new E B z_inX0 tyX0 tyX0_ok t_854 t_240 t_126 (ci := 0) rfl (fs := [.null, .int 0]) (by decide +kernel) (Nat.le_of_ble_eq_true rfl) (Nat.le_of_ble_eq_true rfl) dX7_init_5 (fun q_1 H B => ?_)
  have B : zB G A s.heap [zo a0 5 [.null, .null, .null, .null, .null, .null, .int 0, .int 0, .int 0, .int 0], zo q_1 0 [.null, .int 0]] _ _ := B
  refine lv_dup E.x E.b dX7_init_8 rfl ?_
  refine lv_bipush (v := 8) E.x E.b dX7_init_9 (by decide) ?_
  refine z_callv E B (wc := [zo q_1 0 [.null, .int 0]]) (wr := [zo a0 5 [.null, .null, .null, .null, .null, .null, .int 0, .int 0, .int 0, .int 0]]) [1] [0] rfl rfl (by decide) (by decide) (z_runI E B (As := [.int 8]) (rest := [.ref q_1, .ref a0]) [1] rfl (by decide) mi_X0_init t_855 (c_X0_init_81 l G _ q_1) rfl rfl ⟨Nat.le_of_ble_eq_true rfl, Nat.le_of_ble_eq_true rfl⟩ rfl hl.1 rfl (Nat.le_of_ble_eq_true rfl) dX7_init_11 ⟨(Nat.le_of_ble_eq_true rfl), (Nat.le_of_ble_eq_true rfl)⟩) (fun  t H locs hp hB J => ?_)
  obtain ⟨q_2, hq⟩ := hB
  have B := J _ hq
  have B : zB G A s.heap [zo a0 5 [.null, .null, .null, .null, .null, .null, .int 0, .int 0, .int 0, .int 0], zo q_1 0 [.ref q_2, .int 0], zi G q_2 8 (fun _ => 0)] _ _ := B
  refine z_putF E B z_inX7 tyX7 tyX7_ok nmX7 (ci := 5) rfl 0 (by decide) rfl (ty := (.object "BackLogic$Cascade")) (by decide +kernel) t_856 rfl hin 0 rfl (Nat.le_of_ble_eq_true rfl) rfl rfl dX7_init_14 (fun H locs B => ?_)
  have B : zB G A s.heap [zo a0 5 [.ref q_1, .null, .null, .null, .null, .null, .int 0, .int 0, .int 0, .int 0], zo q_1 0 [.ref q_2, .int 0], zi G q_2 8 (fun _ => 0)] _ _ := B
  refine lv_aload_n E.x E.b dX7_init_17 rfl (lv_at hl 0 rfl) ?_
  refine lv_sipush (v := 8192) E.x E.b dX7_init_18 (by decide) ?_
  refine z_newI E B t_193 (N' := 8192) (by decide) (by decide +kernel) (by decide) (Nat.le_of_ble_eq_true rfl) (Nat.le_of_ble_eq_true rfl) dX7_init_21 (fun q_3 H B => ?_)
  have B : zB G A s.heap [zo a0 5 [.ref q_1, .null, .null, .null, .null, .null, .int 0, .int 0, .int 0, .int 0], zo q_1 0 [.ref q_2, .int 0], zi G q_2 8 (fun _ => 0), zi G q_3 8192 (fun _ => 0)] _ _ := B
  refine z_putF E B z_inX7 tyX7 tyX7_ok nmX7 (ci := 5) rfl 1 (by decide) rfl (ty := (.array .int)) (by decide +kernel) t_858 rfl hin 0 rfl (Nat.le_of_ble_eq_true rfl) rfl rfl dX7_init_23 (fun H locs B => ?_)
  have B : zB G A s.heap [zo a0 5 [.ref q_1, .ref q_3, .null, .null, .null, .null, .int 0, .int 0, .int 0, .int 0], zo q_1 0 [.ref q_2, .int 0], zi G q_2 8 (fun _ => 0), zi G q_3 8192 (fun _ => 0)] _ _ := B
  refine lv_aload_n E.x E.b dX7_init_26 rfl (lv_at hl 0 rfl) ?_
  refine lv_sipush (v := 3600) E.x E.b dX7_init_27 (by decide) ?_
  refine z_newI E B t_193 (N' := 3600) (by decide) (by decide +kernel) (by decide) (Nat.le_of_ble_eq_true rfl) (Nat.le_of_ble_eq_true rfl) dX7_init_30 (fun q_4 H B => ?_)
  have B : zB G A s.heap [zo a0 5 [.ref q_1, .ref q_3, .null, .null, .null, .null, .int 0, .int 0, .int 0, .int 0], zo q_1 0 [.ref q_2, .int 0], zi G q_2 8 (fun _ => 0), zi G q_3 8192 (fun _ => 0), zi G q_4 3600 (fun _ => 0)] _ _ := B
  refine z_putF E B z_inX7 tyX7 tyX7_ok nmX7 (ci := 5) rfl 2 (by decide) rfl (ty := (.array .int)) (by decide +kernel) t_859 rfl hin 0 rfl (Nat.le_of_ble_eq_true rfl) rfl rfl dX7_init_32 (fun H locs B => ?_)
  have B : zB G A s.heap [zo a0 5 [.ref q_1, .ref q_3, .ref q_4, .null, .null, .null, .int 0, .int 0, .int 0, .int 0], zo q_1 0 [.ref q_2, .int 0], zi G q_2 8 (fun _ => 0), zi G q_3 8192 (fun _ => 0), zi G q_4 3600 (fun _ => 0)] _ _ := B
  refine lv_aload_n E.x E.b dX7_init_35 rfl (lv_at hl 0 rfl) ?_
  refine lv_bipush (v := 12) E.x E.b dX7_init_36 (by decide) ?_
  refine z_newI E B t_193 (N' := 12) (by decide) (by decide +kernel) (by decide) (Nat.le_of_ble_eq_true rfl) (Nat.le_of_ble_eq_true rfl) dX7_init_38 (fun q_5 H B => ?_)
  have B : zB G A s.heap [zo a0 5 [.ref q_1, .ref q_3, .ref q_4, .null, .null, .null, .int 0, .int 0, .int 0, .int 0], zo q_1 0 [.ref q_2, .int 0], zi G q_2 8 (fun _ => 0), zi G q_3 8192 (fun _ => 0), zi G q_4 3600 (fun _ => 0), zi G q_5 12 (fun _ => 0)] _ _ := B
  refine z_putF E B z_inX7 tyX7 tyX7_ok nmX7 (ci := 5) rfl 3 (by decide) rfl (ty := (.array .int)) (by decide +kernel) t_860 rfl hin 0 rfl (Nat.le_of_ble_eq_true rfl) rfl rfl dX7_init_40 (fun H locs B => ?_)
  have B : zB G A s.heap [zo a0 5 [.ref q_1, .ref q_3, .ref q_4, .ref q_5, .null, .null, .int 0, .int 0, .int 0, .int 0], zo q_1 0 [.ref q_2, .int 0], zi G q_2 8 (fun _ => 0), zi G q_3 8192 (fun _ => 0), zi G q_4 3600 (fun _ => 0), zi G q_5 12 (fun _ => 0)] _ _ := B
  refine lv_aload_n E.x E.b dX7_init_43 rfl (lv_at hl 0 rfl) ?_
  refine lv_bipush (v := 12) E.x E.b dX7_init_44 (by decide) ?_
  refine z_newI E B t_193 (N' := 12) (by decide) (by decide +kernel) (by decide) (Nat.le_of_ble_eq_true rfl) (Nat.le_of_ble_eq_true rfl) dX7_init_46 (fun q_6 H B => ?_)
  have B : zB G A s.heap [zo a0 5 [.ref q_1, .ref q_3, .ref q_4, .ref q_5, .null, .null, .int 0, .int 0, .int 0, .int 0], zo q_1 0 [.ref q_2, .int 0], zi G q_2 8 (fun _ => 0), zi G q_3 8192 (fun _ => 0), zi G q_4 3600 (fun _ => 0), zi G q_5 12 (fun _ => 0), zi G q_6 12 (fun _ => 0)] _ _ := B
  refine z_putF E B z_inX7 tyX7 tyX7_ok nmX7 (ci := 5) rfl 4 (by decide) rfl (ty := (.array .int)) (by decide +kernel) t_861 rfl hin 0 rfl (Nat.le_of_ble_eq_true rfl) rfl rfl dX7_init_48 (fun H locs B => ?_)
  have B : zB G A s.heap [zo a0 5 [.ref q_1, .ref q_3, .ref q_4, .ref q_5, .ref q_6, .null, .int 0, .int 0, .int 0, .int 0], zo q_1 0 [.ref q_2, .int 0], zi G q_2 8 (fun _ => 0), zi G q_3 8192 (fun _ => 0), zi G q_4 3600 (fun _ => 0), zi G q_5 12 (fun _ => 0), zi G q_6 12 (fun _ => 0)] _ _ := B
  refine lv_aload_n E.x E.b dX7_init_51 rfl (lv_at hl 0 rfl) ?_
  refine lv_bipush (v := 12) E.x E.b dX7_init_52 (by decide) ?_
  refine z_newI E B t_193 (N' := 12) (by decide) (by decide +kernel) (by decide) (Nat.le_of_ble_eq_true rfl) (Nat.le_of_ble_eq_true rfl) dX7_init_54 (fun q_7 H B => ?_)
  have B : zB G A s.heap [zo a0 5 [.ref q_1, .ref q_3, .ref q_4, .ref q_5, .ref q_6, .null, .int 0, .int 0, .int 0, .int 0], zo q_1 0 [.ref q_2, .int 0], zi G q_2 8 (fun _ => 0), zi G q_3 8192 (fun _ => 0), zi G q_4 3600 (fun _ => 0), zi G q_5 12 (fun _ => 0), zi G q_6 12 (fun _ => 0), zi G q_7 12 (fun _ => 0)] _ _ := B
  refine z_putF E B z_inX7 tyX7 tyX7_ok nmX7 (ci := 5) rfl 5 (by decide) rfl (ty := (.array .int)) (by decide +kernel) t_862 rfl hin 0 rfl (Nat.le_of_ble_eq_true rfl) rfl rfl dX7_init_56 (fun H locs B => ?_)
  have B : zB G A s.heap [zo a0 5 [.ref q_1, .ref q_3, .ref q_4, .ref q_5, .ref q_6, .ref q_7, .int 0, .int 0, .int 0, .int 0], zo q_1 0 [.ref q_2, .int 0], zi G q_2 8 (fun _ => 0), zi G q_3 8192 (fun _ => 0), zi G q_4 3600 (fun _ => 0), zi G q_5 12 (fun _ => 0), zi G q_6 12 (fun _ => 0), zi G q_7 12 (fun _ => 0)] _ _ := B
  refine lv_aload_n E.x E.b dX7_init_59 rfl (lv_at hl 0 rfl) ?_
  refine lv_iconst (v := (-1)) E.x E.b dX7_init_60 (by decide) ?_
  refine z_put E B z_inX7 tyX7 tyX7_ok nmX7 (ci := 5) rfl 8 (by decide) rfl (ty := .int) (by decide +kernel) t_865 0 rfl (Nat.le_of_ble_eq_true rfl) rfl rfl dX7_init_61 (fun H locs B => ?_)
  have B : zB G A s.heap [zo a0 5 [.ref q_1, .ref q_3, .ref q_4, .ref q_5, .ref q_6, .ref q_7, .int 0, .int 0, .int (-1), .int 0], zo q_1 0 [.ref q_2, .int 0], zi G q_2 8 (fun _ => 0), zi G q_3 8192 (fun _ => 0), zi G q_4 3600 (fun _ => 0), zi G q_5 12 (fun _ => 0), zi G q_6 12 (fun _ => 0), zi G q_7 12 (fun _ => 0)] _ _ := B
  refine lv_aload_n E.x E.b dX7_init_64 rfl (lv_at hl 0 rfl) ?_
  refine lv_iconst (v := (-1)) E.x E.b dX7_init_65 (by decide) ?_
  refine z_put E B z_inX7 tyX7 tyX7_ok nmX7 (ci := 5) rfl 9 (by decide) rfl (ty := .int) (by decide +kernel) t_866 0 rfl (Nat.le_of_ble_eq_true rfl) rfl rfl dX7_init_66 (fun H locs B => ?_)
  have B : zB G A s.heap [zo a0 5 [.ref q_1, .ref q_3, .ref q_4, .ref q_5, .ref q_6, .ref q_7, .int 0, .int 0, .int (-1), .int (-1)], zo q_1 0 [.ref q_2, .int 0], zi G q_2 8 (fun _ => 0), zi G q_3 8192 (fun _ => 0), zi G q_4 3600 (fun _ => 0), zi G q_5 12 (fun _ => 0), zi G q_6 12 (fun _ => 0), zi G q_7 12 (fun _ => 0)] _ _ := B
  refine W.widen (k := 7) (n := 11838) (Nat.le_of_ble_eq_true rfl) (Nat.le_of_ble_eq_true rfl) ?_
  exact z_vret E hr hlocks B trivial (fun t ht => ⟨q_1, q_3, q_4, q_5, q_6, q_7, q_2, z_q B [0, 1, 2, 3, 4, 5, 6, 7] (by decide) rfl ht⟩) dX7_init_69
set_option maxHeartbeats 4000000 in
set_option maxRecDepth 100000 in
theorem c_X7_setKinds_83 (l : Launch) (G : zGT) (sz : Nat) (a0 a1 a2 a3 a4 a5 a6 : Nat) : Met l yX7_setKinds (.code yX7_setKinds cX7_setKinds 3 none :: zT) ({ frames := 0, cells := 0, slots := 0, locals := 64 }) (va_Pc [.ref a0] (zPc G [zo a0 5 [.ref a1, .ref a2, .ref a3, .ref a4, .ref a5, .ref a6, .int 0, .int 0, .int 0, .int (-1)]] sz)) ((fun A => va_Qv (fun (_ : Unit) => True) (fun (_ : Unit) t => zQ G [zo a0 5 [.ref a1, .ref a2, .ref a3, .ref a4, .ref a5, .ref a6, .int 0, .int 0, .int 0, .int (-1)]] A t) A) (va_A [zo a0 5 [.ref a1, .ref a2, .ref a3, .ref a4, .ref a5, .ref a6, .int 0, .int 0, .int 0, .int (-1)]] sz)) 0 0 (va_A [zo a0 5 [.ref a1, .ref a2, .ref a3, .ref a4, .ref a5, .ref a6, .int 0, .int 0, .int 0, .int (-1)]] sz) := by
  refine z_start (y := yX7_setKinds) (bytes := cX7_setKinds) (maxL := 3) (ret := none) (av := [.ref a0]) (QA := (fun A => va_Qv (fun (_ : Unit) => True) (fun (_ : Unit) t => zQ G [zo a0 5 [.ref a1, .ref a2, .ref a3, .ref a4, .ref a5, .ref a6, .int 0, .int 0, .int 0, .int (-1)]] A t) A)) (by decide) ⟨Nat.le_of_ble_eq_true rfl, trivial⟩ ?_
  intro p e s m below meth c A ls E B hr hlocks hin hl
  have hl : lv_has ls 3 [(0, .ref a0)] := hl
  have B : zB G A s.heap [zo a0 5 [.ref a1, .ref a2, .ref a3, .ref a4, .ref a5, .ref a6, .int 0, .int 0, .int 0, .int (-1)]] s.heap [] := B
  refine lv_aload_n E.x E.b dX7_setKinds_0 rfl (lv_at hl 0 rfl) ?_
  refine lv_iconst (v := 0) E.x E.b dX7_setKinds_1 (by decide) ?_
  refine z_put E B z_inX7 tyX7 tyX7_ok nmX7 (ci := 5) rfl 7 (by decide) rfl (ty := .int) (by decide +kernel) t_864 0 rfl (Nat.le_of_ble_eq_true rfl) rfl rfl dX7_setKinds_2 (fun H locs B => ?_)
  have B : zB G A s.heap [zo a0 5 [.ref a1, .ref a2, .ref a3, .ref a4, .ref a5, .ref a6, .int 0, .int 0, .int 0, .int (-1)]] _ _ := B
  refine lv_iconst (v := 0) E.x E.b dX7_setKinds_5 (by decide) ?_
  refine lv_istore_n (lv' := [(1, .int 0), (0, .ref a0)]) E.x E.b dX7_setKinds_6 rfl hl (by decide) rfl (fun ls hl => ?_)
  refine lv_iload_n E.x E.b dX7_setKinds_7 rfl (lv_at hl 0 rfl) ?_
  refine lv_aload_n E.x E.b dX7_setKinds_8 rfl (lv_at hl 1 rfl) ?_
  refine z_get E B z_inX7 (ci := 5) rfl 8 (by decide) t_865 0 rfl rfl dX7_setKinds_9 ?_
  refine lv_icmp_ge (tgt := 108) E.x E.b dX7_setKinds_12 (by decide) (fun _ => ?_) (fun c => absurd (by decide +kernel) c)
  refine W.widen (k := 0) (n := 0) (Nat.le_of_ble_eq_true rfl) (Nat.le_of_ble_eq_true rfl) ?_
  exact z_vret E hr hlocks B trivial (fun t ht => z_q B [0] (by decide) rfl ht) dX7_setKinds_108
set_option maxHeartbeats 4000000 in
set_option maxRecDepth 100000 in
theorem c_X7_placeOf_84 (l : Launch) (G : zGT) (sz : Nat) (a0 a1 a2 a3 a4 a5 a6 : Nat) : Met l yX7_placeOf (.code yX7_placeOf cX7_placeOf 4 (some .int) :: zT) ({ frames := 0, cells := 0, slots := 0, locals := 64 }) (va_Pc [.ref a0, .int 0] (zPc G [zo a0 5 [.ref a2, .ref a1, .ref a3, .ref a4, .ref a5, .ref a6, .int 1, .int 0, .int 0, .int (-1)], zi G a1 8192 (fun _ => 0)] sz)) ((fun A => va_Qi (fun (r : Int32) (_ : Unit) => r = 0) (fun (_ : Unit) t => zQ G [zo a0 5 [.ref a2, .ref a1, .ref a3, .ref a4, .ref a5, .ref a6, .int 1, .int 0, .int 0, .int (-1)], zi G a1 8192 (fun _ => 0)] A t) A) (va_A [zo a0 5 [.ref a2, .ref a1, .ref a3, .ref a4, .ref a5, .ref a6, .int 1, .int 0, .int 0, .int (-1)], zi G a1 8192 (fun _ => 0)] sz)) 0 0 (va_A [zo a0 5 [.ref a2, .ref a1, .ref a3, .ref a4, .ref a5, .ref a6, .int 1, .int 0, .int 0, .int (-1)], zi G a1 8192 (fun _ => 0)] sz) := by
  refine z_start (y := yX7_placeOf) (bytes := cX7_placeOf) (maxL := 4) (ret := (some .int)) (av := [.ref a0, .int 0]) (QA := (fun A => va_Qi (fun (r : Int32) (_ : Unit) => r = 0) (fun (_ : Unit) t => zQ G [zo a0 5 [.ref a2, .ref a1, .ref a3, .ref a4, .ref a5, .ref a6, .int 1, .int 0, .int 0, .int (-1)], zi G a1 8192 (fun _ => 0)] A t) A)) (by decide) ⟨Nat.le_of_ble_eq_true rfl, trivial⟩ ?_
  intro p e s m below meth c A ls E B hr hlocks hin hl
  have hl : lv_has ls 4 [(0, .ref a0), (1, .int 0)] := hl
  have B : zB G A s.heap [zo a0 5 [.ref a2, .ref a1, .ref a3, .ref a4, .ref a5, .ref a6, .int 1, .int 0, .int 0, .int (-1)], zi G a1 8192 (fun _ => 0)] s.heap [] := B
  refine lv_iload_n E.x E.b dX7_placeOf_0 rfl (lv_at hl 1 rfl) ?_
  refine lv_ldc E.x E.b E.ow (E.w t_913) dX7_placeOf_1 ?_
  refine lv_imul E.x E.b dX7_placeOf_3 (z_topi 0 (by decide +kernel) ?_)
  refine lv_bipush (v := 19) E.x E.b dX7_placeOf_4 (by decide) ?_
  refine lv_iushr (v := 0) E.x E.b dX7_placeOf_6 (by decide +kernel) ?_
  refine lv_istore_n (lv' := [(2, .int 0), (0, .ref a0), (1, .int 0)]) E.x E.b dX7_placeOf_7 rfl hl (by decide) rfl (fun ls hl => ?_)
  refine lv_iconst (v := 0) E.x E.b dX7_placeOf_8 (by decide) ?_
  refine lv_istore_n (lv' := [(3, .int 0), (2, .int 0), (0, .ref a0), (1, .int 0)]) E.x E.b dX7_placeOf_9 rfl hl (by decide) rfl (fun ls hl => ?_)
  refine lv_iload_n E.x E.b dX7_placeOf_10 rfl (lv_at hl 0 rfl) ?_
  refine lv_sipush (v := 8192) E.x E.b dX7_placeOf_11 (by decide) ?_
  refine lv_icmp_ge (tgt := 55) E.x E.b dX7_placeOf_14 (by decide) (fun c => absurd c (by decide +kernel)) (fun _ => ?_)
  refine lv_aload_n E.x E.b dX7_placeOf_17 rfl (lv_at hl 2 rfl) ?_
  refine z_get E B z_inX7 (ci := 5) rfl 1 (by decide) t_858 0 rfl rfl dX7_placeOf_18 ?_
  refine lv_iload_n E.x E.b dX7_placeOf_21 rfl (lv_at hl 1 rfl) ?_
  refine z_iald E B 1 rfl (show ¬ ((0 : Int32) < 0 ∨ 8192 ≤ (0 : Int32).toNatClampNeg) by decide +kernel) dX7_placeOf_22 (z_topi 0 rfl ?_)
  refine lv_if_eq (tgt := 39) E.x E.b dX7_placeOf_23 (by decide) (fun _ => ?_) (fun c => absurd (by decide +kernel) c)
  refine lv_iload_n E.x E.b dX7_placeOf_39 rfl (lv_at hl 1 rfl) ?_
  refine W.widen (k := 0) (n := 0) (Nat.le_of_ble_eq_true rfl) (Nat.le_of_ble_eq_true rfl) ?_
  exact z_iret E hr hlocks B (v := 0) rfl (fun t ht => z_q B [0, 1] (by decide) rfl ht) dX7_placeOf_40
