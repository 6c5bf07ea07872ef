set_option maxHeartbeats 4000000 in
set_option maxRecDepth 100000 in
theorem c_X11_take_62 (l : Launch) (G : zGT) (sz : Nat) (a0 a1 a2 a3 a4 a5 a6 a7 a8 a9 a10 a11 a12 a13 a14 : Nat) (p0 : Int32) : Met l yX11_take (.code yX11_take cX11_take 2 (some .boolean) :: zT) ({ frames := 1, cells := 0, slots := 0, locals := 85 }) (va_Pc [.ref a0, .int p0] (zPc G [zo a0 9 [.ref a2, .ref a3, .ref a4, .ref a1, .ref a5, .ref a6, .ref a7, .ref a8, .ref a9, .ref a10, .ref a11, .ref a12, .ref a13, .null, .int 0, .int (-1)], zo a1 0 [.ref a14, .int 0]] sz)) ((fun A => va_Qi (fun (r : Int32) (_ : Unit) => r = 0) (fun (_ : Unit) t => zQ G [] A t) A) (va_A [zo a0 9 [.ref a2, .ref a3, .ref a4, .ref a1, .ref a5, .ref a6, .ref a7, .ref a8, .ref a9, .ref a10, .ref a11, .ref a12, .ref a13, .null, .int 0, .int (-1)], zo a1 0 [.ref a14, .int 0]] sz)) 0 0 (va_A [zo a0 9 [.ref a2, .ref a3, .ref a4, .ref a1, .ref a5, .ref a6, .ref a7, .ref a8, .ref a9, .ref a10, .ref a11, .ref a12, .ref a13, .null, .int 0, .int (-1)], zo a1 0 [.ref a14, .int 0]] sz) := by
  refine z_start (y := yX11_take) (bytes := cX11_take) (maxL := 2) (ret := (some .boolean)) (av := [.ref a0, .int p0]) (QA := (fun A => va_Qi (fun (r : Int32) (_ : Unit) => r = 0) (fun (_ : Unit) t => zQ G [] A t) A)) (by decide) ⟨Nat.le_of_ble_eq_true rfl, trivial⟩ ?_
  intro p e s m below meth c A ls E B hr hlocks hin hl
  have hl : lv_has ls 2 [(0, .ref a0), (1, .int p0)] := hl
  have B : zB G A s.heap [zo a0 9 [.ref a2, .ref a3, .ref a4, .ref a1, .ref a5, .ref a6, .ref a7, .ref a8, .ref a9, .ref a10, .ref a11, .ref a12, .ref a13, .null, .int 0, .int (-1)], zo a1 0 [.ref a14, .int 0]] s.heap [] := B
  refine lv_aload_n E.x E.b dX11_take_0 rfl (lv_at hl 0 rfl) ?_
  refine z_get E B z_inX11 (ci := 9) rfl 3 (by decide) t_372 0 rfl rfl dX11_take_1 ?_
  refine lv_iload_n E.x E.b dX11_take_4 rfl (lv_at hl 1 rfl) ?_
  refine z_calli E B (wc := [zo a1 0 [.ref a14, .int 0]]) (wr := [zo a0 9 [.ref a2, .ref a3, .ref a4, .ref a1, .ref a5, .ref a6, .ref a7, .ref a8, .ref a9, .ref a10, .ref a11, .ref a12, .ref a13, .null, .int 0, .int (-1)]]) [1] [0] rfl rfl (by decide) (by decide) (z_runV E B (As := [.int p0]) (rest := []) [1] rfl (by decide) mv_X0_has t_709 0 (ci := 0) rfl rfl rfl (c_X0_has_61 l G _ a1 a14 p0) rfl rfl ⟨Nat.le_of_ble_eq_true rfl, Nat.le_of_ble_eq_true rfl⟩ rfl hl.1 rfl (Nat.le_of_ble_eq_true rfl) dX11_take_5 ⟨(Nat.le_of_ble_eq_true rfl), (Nat.le_of_ble_eq_true rfl)⟩) (fun r t H locs hp hB J => ?_)
  have hq := hB
  have B := J _ hq
  have B : zB G A s.heap [zo a0 9 [.ref a2, .ref a3, .ref a4, .ref a1, .ref a5, .ref a6, .ref a7, .ref a8, .ref a9, .ref a10, .ref a11, .ref a12, .ref a13, .null, .int 0, .int (-1)], zo a1 0 [.ref a14, .int 0]] _ _ := B
  have hp := hp.symm
  subst hp
  refine lv_if_ne (tgt := 13) E.x E.b dX11_take_8 (by decide) (fun c => absurd (by decide +kernel) c) (fun _ => ?_)
  refine lv_iconst (v := 0) E.x E.b dX11_take_11 (by decide) ?_
  refine W.widen (k := 0) (n := 0) (Nat.le_of_ble_eq_true rfl) (Nat.le_of_ble_eq_true rfl) ?_
  exact z_zret E hr hlocks B (v := 0) rfl rfl (fun t ht => z_q B [] (by decide) rfl ht) dX11_take_12
set_option maxHeartbeats 4000000 in
set_option maxRecDepth 100000 in
theorem c_X11_swap_63 (l : Launch) (G : zGT) (sz : Nat) (a0 a1 a2 a3 a4 a5 a6 a7 a8 a9 a10 a11 a12 a13 a14 : Nat) (p0 : Int32) : Met l yX11_swap (.code yX11_swap cX11_swap 2 (some .boolean) :: zT) ({ frames := 0, cells := 0, slots := 0, locals := 64 }) (va_Pc [.ref a0, .int p0] (zPc G [zo a0 9 [.ref a2, .ref a3, .ref a4, .ref a1, .ref a5, .ref a6, .ref a7, .ref a8, .ref a9, .ref a10, .ref a11, .ref a12, .ref a13, .null, .int 0, .int (-1)], zo a1 0 [.ref a14, .int 0]] sz)) ((fun A => va_Qi (fun (r : Int32) (_ : Unit) => r = 0) (fun (_ : Unit) t => zQ G [] A t) A) (va_A [zo a0 9 [.ref a2, .ref a3, .ref a4, .ref a1, .ref a5, .ref a6, .ref a7, .ref a8, .ref a9, .ref a10, .ref a11, .ref a12, .ref a13, .null, .int 0, .int (-1)], zo a1 0 [.ref a14, .int 0]] sz)) 0 0 (va_A [zo a0 9 [.ref a2, .ref a3, .ref a4, .ref a1, .ref a5, .ref a6, .ref a7, .ref a8, .ref a9, .ref a10, .ref a11, .ref a12, .ref a13, .null, .int 0, .int (-1)], zo a1 0 [.ref a14, .int 0]] sz) := by
  refine z_start (y := yX11_swap) (bytes := cX11_swap) (maxL := 2) (ret := (some .boolean)) (av := [.ref a0, .int p0]) (QA := (fun A => va_Qi (fun (r : Int32) (_ : Unit) => r = 0) (fun (_ : Unit) t => zQ G [] A t) A)) (by decide) ⟨Nat.le_of_ble_eq_true rfl, trivial⟩ ?_
  intro p e s m below meth c A ls E B hr hlocks hin hl
  have hl : lv_has ls 2 [(0, .ref a0), (1, .int p0)] := hl
  have B : zB G A s.heap [zo a0 9 [.ref a2, .ref a3, .ref a4, .ref a1, .ref a5, .ref a6, .ref a7, .ref a8, .ref a9, .ref a10, .ref a11, .ref a12, .ref a13, .null, .int 0, .int (-1)], zo a1 0 [.ref a14, .int 0]] s.heap [] := B
  refine lv_iload_n E.x E.b dX11_swap_0 rfl (lv_at hl 1 rfl) ?_
  refine lv_if_lt (tgt := 17) E.x E.b dX11_swap_1 (by decide) (fun c_1 => ?_) (fun c_1 => ?_)
  · have c_1f : p0.toInt < 0 := zi_lt c_1
    refine lv_iconst (v := 0) E.x E.b dX11_swap_17 (by decide) ?_
    refine W.widen (k := 0) (n := 0) (Nat.le_of_ble_eq_true rfl) (Nat.le_of_ble_eq_true rfl) ?_
    exact z_zret E hr hlocks B (v := 0) rfl rfl (fun t ht => z_q B [] (by decide) rfl ht) dX11_swap_18
  · have c_1f : 0 ≤ p0.toInt := zi_nlt c_1
    refine lv_iload_n E.x E.b dX11_swap_4 rfl (lv_at hl 1 rfl) ?_
    refine lv_aload_n E.x E.b dX11_swap_5 rfl (lv_at hl 0 rfl) ?_
    refine z_get E B z_inX11 (ci := 9) rfl 3 (by decide) t_372 0 rfl rfl dX11_swap_6 ?_
    refine z_get E B z_inX0 (ci := 0) rfl 1 (by decide) t_253 1 rfl rfl dX11_swap_9 ?_
    refine lv_iconst (v := 1) E.x E.b dX11_swap_12 (by decide) ?_
    refine lv_isub E.x E.b dX11_swap_13 (z_topi (-1) (by decide +kernel) ?_)
    refine lv_icmp_lt (tgt := 19) E.x E.b dX11_swap_14 (by decide) (fun c_2 => ?_) (fun c_2 => ?_)
    · have c_2f : p0.toInt < (-1) := zi_lt c_2
      exfalso; omega
    · have c_2f : (-1) ≤ p0.toInt := zi_nlt c_2
      refine lv_iconst (v := 0) E.x E.b dX11_swap_17 (by decide) ?_
      refine W.widen (k := 0) (n := 0) (Nat.le_of_ble_eq_true rfl) (Nat.le_of_ble_eq_true rfl) ?_
      exact z_zret E hr hlocks B (v := 0) rfl rfl (fun t ht => z_q B [] (by decide) rfl ht) dX11_swap_18
set_option maxHeartbeats 4000000 in
set_option maxRecDepth 100000 in
theorem c_X0_copy_64 (l : Launch) (G : zGT) (sz : Nat) (a0 a1 a2 a3 : Nat) : Met l yX0_copy (.code yX0_copy cX0_copy 2 none :: zT) ({ frames := 1, cells := 0, slots := 0, locals := 64 }) (va_Pc [.ref a0, .ref a1] (zPc G [zo a0 0 [.ref a2, .int 0], zo a1 0 [.ref a3, .int 0], zi G a2 16 (fun _ => 0), zi G a3 16 (fun _ => 0)] sz)) ((fun A => va_Qv (fun (_ : Unit) => True) (fun (_ : Unit) t => zQ G [zo a0 0 [.ref a2, .int 0], zo a1 0 [.ref a3, .int 0], zi G a2 16 (fun _ => 0), zi G a3 16 (fun _ => 0)] A t) A) (va_A [zo a0 0 [.ref a2, .int 0], zo a1 0 [.ref a3, .int 0], zi G a2 16 (fun _ => 0), zi G a3 16 (fun _ => 0)] sz)) 0 0 (va_A [zo a0 0 [.ref a2, .int 0], zo a1 0 [.ref a3, .int 0], zi G a2 16 (fun _ => 0), zi G a3 16 (fun _ => 0)] sz) := by
  refine z_start (y := yX0_copy) (bytes := cX0_copy) (maxL := 2) (ret := none) (av := [.ref a0, .ref a1]) (QA := (fun A => va_Qv (fun (_ : Unit) => True) (fun (_ : Unit) t => zQ G [zo a0 0 [.ref a2, .int 0], zo a1 0 [.ref a3, .int 0], zi G a2 16 (fun _ => 0), zi G a3 16 (fun _ => 0)] A t) A)) (by decide) ⟨Nat.le_of_ble_eq_true rfl, trivial⟩ ?_
  intro p e s m below meth c A ls E B hr hlocks hin hl
  have hl : lv_has ls 2 [(0, .ref a0), (1, .ref a1)] := hl
  have B : zB G A s.heap [zo a0 0 [.ref a2, .int 0], zo a1 0 [.ref a3, .int 0], zi G a2 16 (fun _ => 0), zi G a3 16 (fun _ => 0)] s.heap [] := B
  refine lv_aload_n E.x E.b dX0_copy_0 rfl (lv_at hl 0 rfl) ?_
  refine lv_aload_n E.x E.b dX0_copy_1 rfl (lv_at hl 1 rfl) ?_
  refine z_get E B z_inX0 (ci := 0) rfl 1 (by decide) t_250 1 rfl rfl dX0_copy_2 ?_
  refine lv_aload_n E.x E.b dX0_copy_5 rfl (lv_at hl 0 rfl) ?_
  refine z_get E B z_inX0 (ci := 0) rfl 0 (by decide) t_248 0 rfl rfl dX0_copy_6 ?_
  refine z_ilen E B 2 rfl (v := 16) (by decide +kernel) dX0_copy_9 ?_
  refine va_mmin E.x E.b (E.1.2.2.1.trans hl.1.symm) E.ow (E.w t_mlX0_33) (E.w t_mmin1) (E.w t_127) (E.w t_mmin2) (Nat.le_of_ble_eq_true rfl) (Nat.le_of_ble_eq_true rfl) (Nat.le_of_ble_eq_true rfl) (Nat.le_of_ble_eq_true rfl) dX0_copy_10 (z_topi 0 (by decide +kernel) ?_)
  refine z_put E B z_inX0 tyX0 tyX0_ok nmX0 (ci := 0) rfl 1 (by decide) rfl (ty := .int) (by decide +kernel) t_250 0 rfl (Nat.le_of_ble_eq_true rfl) rfl rfl dX0_copy_13 (fun H locs B => ?_)
  have B : zB G A s.heap [zo a0 0 [.ref a2, .int 0], zo a1 0 [.ref a3, .int 0], zi G a2 16 (fun _ => 0), zi G a3 16 (fun _ => 0)] _ _ := B
  refine lv_aload_n E.x E.b dX0_copy_16 rfl (lv_at hl 1 rfl) ?_
  refine z_get E B z_inX0 (ci := 0) rfl 0 (by decide) t_248 1 rfl rfl dX0_copy_17 ?_
  refine lv_iconst (v := 0) E.x E.b dX0_copy_20 (by decide) ?_
  refine lv_aload_n E.x E.b dX0_copy_21 rfl (lv_at hl 0 rfl) ?_
  refine z_get E B z_inX0 (ci := 0) rfl 0 (by decide) t_248 0 rfl rfl dX0_copy_22 ?_
  refine lv_iconst (v := 0) E.x E.b dX0_copy_25 (by decide) ?_
  refine lv_aload_n E.x E.b dX0_copy_26 rfl (lv_at hl 0 rfl) ?_
  refine z_get E B z_inX0 (ci := 0) rfl 1 (by decide) t_250 0 rfl rfl dX0_copy_27 ?_
  refine z_copy0 E B (lv_sub hl [] rfl) 3 2 rfl rfl t_arrcopy_X0_36 t_acn t_acs t_aci (Nat.le_of_ble_eq_true rfl) (Nat.le_of_ble_eq_true rfl) dX0_copy_30 (fun H locs B => ?_)
  have B : zB G A s.heap [zo a0 0 [.ref a2, .int 0], zo a1 0 [.ref a3, .int 0], zi G a2 16 (fun _ => 0), zi G a3 16 (fun _ => 0)] _ _ := B
  refine W.widen (k := 0) (n := 0) (Nat.le_of_ble_eq_true rfl) (Nat.le_of_ble_eq_true rfl) ?_
  exact z_vret E hr hlocks B trivial (fun t ht => z_q B [0, 1, 2, 3] (by decide) rfl ht) dX0_copy_33
set_option maxHeartbeats 4000000 in
set_option maxRecDepth 100000 in
theorem c_X11_rows_65 (l : Launch) (G : zGT) (sz : Nat) (a0 a1 a2 a3 a4 a5 a6 a7 a8 a9 a10 a11 a12 a13 : Nat) : Met l yX11_rows (.code yX11_rows cX11_rows 1 (some .int) :: zT) ({ frames := 0, cells := 0, slots := 0, locals := 64 }) (va_Pc [.ref a0] (zPc G [zo a0 9 [.ref a1, .ref a2, .ref a3, .ref a4, .ref a5, .ref a6, .ref a7, .ref a8, .ref a9, .ref a10, .ref a11, .ref a12, .ref a13, .null, .int 0, .int (-1)]] sz)) ((fun A => va_Qi (fun (r : Int32) (_ : Unit) => r = 1) (fun (_ : Unit) t => zQ G [zo a0 9 [.ref a1, .ref a2, .ref a3, .ref a4, .ref a5, .ref a6, .ref a7, .ref a8, .ref a9, .ref a10, .ref a11, .ref a12, .ref a13, .null, .int 0, .int (-1)]] A t) A) (va_A [zo a0 9 [.ref a1, .ref a2, .ref a3, .ref a4, .ref a5, .ref a6, .ref a7, .ref a8, .ref a9, .ref a10, .ref a11, .ref a12, .ref a13, .null, .int 0, .int (-1)]] sz)) 0 0 (va_A [zo a0 9 [.ref a1, .ref a2, .ref a3, .ref a4, .ref a5, .ref a6, .ref a7, .ref a8, .ref a9, .ref a10, .ref a11, .ref a12, .ref a13, .null, .int 0, .int (-1)]] sz) := by
  refine z_start (y := yX11_rows) (bytes := cX11_rows) (maxL := 1) (ret := (some .int)) (av := [.ref a0]) (QA := (fun A => va_Qi (fun (r : Int32) (_ : Unit) => r = 1) (fun (_ : Unit) t => zQ G [zo a0 9 [.ref a1, .ref a2, .ref a3, .ref a4, .ref a5, .ref a6, .ref a7, .ref a8, .ref a9, .ref a10, .ref a11, .ref a12, .ref a13, .null, .int 0, .int (-1)]] A t) A)) (by decide) ⟨Nat.le_of_ble_eq_true rfl, trivial⟩ ?_
  intro p e s m below meth c A ls E B hr hlocks hin hl
  have hl : lv_has ls 1 [(0, .ref a0)] := hl
  have B : zB G A s.heap [zo a0 9 [.ref a1, .ref a2, .ref a3, .ref a4, .ref a5, .ref a6, .ref a7, .ref a8, .ref a9, .ref a10, .ref a11, .ref a12, .ref a13, .null, .int 0, .int (-1)]] s.heap [] := B
  refine lv_iconst (v := 1) E.x E.b dX11_rows_0 (by decide) ?_
  refine lv_aload_n E.x E.b dX11_rows_1 rfl (lv_at hl 0 rfl) ?_
  refine z_get E B z_inX11 (ci := 9) rfl 14 (by decide) t_383 0 rfl rfl dX11_rows_2 ?_
  refine lv_ishl E.x E.b dX11_rows_5 (z_topi 1 (by decide +kernel) ?_)
  refine W.widen (k := 0) (n := 0) (Nat.le_of_ble_eq_true rfl) (Nat.le_of_ble_eq_true rfl) ?_
  exact z_iret E hr hlocks B (v := 1) rfl (fun t ht => z_q B [0] (by decide) rfl ht) dX11_rows_6
set_option maxHeartbeats 4000000 in
set_option maxRecDepth 100000 in
theorem c_X0_shrink_66 (l : Launch) (G : zGT) (sz : Nat) (a0 a1 : Nat) : Met l yX0_shrink (.code yX0_shrink cX0_shrink 3 none :: zT) ({ frames := 0, cells := 0, slots := 0, locals := 64 }) (va_Pc [.ref a0, .int 1] (zPc G [zo a0 0 [.ref a1, .int 0]] sz)) ((fun A => va_Qv (fun (_ : Unit) => True) (fun (_ : Unit) t => zQ G [zo a0 0 [.ref a1, .int 0]] A t) A) (va_A [zo a0 0 [.ref a1, .int 0]] sz)) 0 0 (va_A [zo a0 0 [.ref a1, .int 0]] sz) := by
  refine z_start (y := yX0_shrink) (bytes := cX0_shrink) (maxL := 3) (ret := none) (av := [.ref a0, .int 1]) (QA := (fun A => va_Qv (fun (_ : Unit) => True) (fun (_ : Unit) t => zQ G [zo a0 0 [.ref a1, .int 0]] A t) A)) (by decide) ⟨Nat.le_of_ble_eq_true rfl, trivial⟩ ?_
  intro p e s m below meth c A ls E B hr hlocks hin hl
  have hl : lv_has ls 3 [(0, .ref a0), (1, .int 1)] := hl
  have B : zB G A s.heap [zo a0 0 [.ref a1, .int 0]] s.heap [] := B
  refine lv_aload_n E.x E.b dX0_shrink_0 rfl (lv_at hl 0 rfl) ?_
  refine z_get E B z_inX0 (ci := 0) rfl 1 (by decide) t_250 0 rfl rfl dX0_shrink_1 ?_
  refine lv_istore_n (lv' := [(2, .int 0), (0, .ref a0), (1, .int 1)]) E.x E.b dX0_shrink_4 rfl hl (by decide) rfl (fun ls hl => ?_)
  refine lv_iload_n E.x E.b dX0_shrink_5 rfl (lv_at hl 0 rfl) ?_
  refine lv_if_le (tgt := 24) E.x E.b dX0_shrink_6 (by decide) (fun _ => ?_) (fun c => absurd (by decide +kernel) c)
  refine W.widen (k := 0) (n := 0) (Nat.le_of_ble_eq_true rfl) (Nat.le_of_ble_eq_true rfl) ?_
  exact z_vret E hr hlocks B trivial (fun t ht => z_q B [0] (by decide) rfl ht) dX0_shrink_24
set_option maxHeartbeats 4000000 in
set_option maxRecDepth 100000 in
theorem c_X11_shrunkCascade_67 (l : Launch) (G : zGT) (sz : Nat) (a0 a1 a2 a3 a4 a5 a6 a7 a8 a9 a10 a11 a12 a13 a14 a15 : Nat) : Met l yX11_shrunkCascade (.code yX11_shrunkCascade cX11_shrunkCascade 1 (some (.object "BackLogic$Cascade")) :: zT) ({ frames := 2, cells := 0, slots := 0, locals := 86 }) (va_Pc [.ref a0] (zPc G [zo a0 9 [.ref a5, .ref a6, .ref a7, .ref a2, .ref a1, .ref a8, .ref a9, .ref a10, .ref a11, .ref a12, .ref a13, .ref a14, .ref a15, .null, .int 0, .int (-1)], zo a1 0 [.ref a3, .int 0], zo a2 0 [.ref a4, .int 0], zi G a3 16 (fun _ => 0), zi G a4 16 (fun _ => 0)] sz)) ((fun A => va_Qr (fun (_ : Unit) => True) (fun (_ : Unit) r t => r = a1 ∧ zQ G [zo a0 9 [.ref a5, .ref a6, .ref a7, .ref a2, .ref a1, .ref a8, .ref a9, .ref a10, .ref a11, .ref a12, .ref a13, .ref a14, .ref a15, .null, .int 0, .int (-1)], zo a1 0 [.ref a3, .int 0], zo a2 0 [.ref a4, .int 0], zi G a3 16 (fun _ => 0), zi G a4 16 (fun _ => 0)] A t) A) (va_A [zo a0 9 [.ref a5, .ref a6, .ref a7, .ref a2, .ref a1, .ref a8, .ref a9, .ref a10, .ref a11, .ref a12, .ref a13, .ref a14, .ref a15, .null, .int 0, .int (-1)], zo a1 0 [.ref a3, .int 0], zo a2 0 [.ref a4, .int 0], zi G a3 16 (fun _ => 0), zi G a4 16 (fun _ => 0)] sz)) 0 0 (va_A [zo a0 9 [.ref a5, .ref a6, .ref a7, .ref a2, .ref a1, .ref a8, .ref a9, .ref a10, .ref a11, .ref a12, .ref a13, .ref a14, .ref a15, .null, .int 0, .int (-1)], zo a1 0 [.ref a3, .int 0], zo a2 0 [.ref a4, .int 0], zi G a3 16 (fun _ => 0), zi G a4 16 (fun _ => 0)] sz) := by
  refine z_start (y := yX11_shrunkCascade) (bytes := cX11_shrunkCascade) (maxL := 1) (ret := (some (.object "BackLogic$Cascade"))) (av := [.ref a0]) (QA := (fun A => va_Qr (fun (_ : Unit) => True) (fun (_ : Unit) r t => r = a1 ∧ zQ G [zo a0 9 [.ref a5, .ref a6, .ref a7, .ref a2, .ref a1, .ref a8, .ref a9, .ref a10, .ref a11, .ref a12, .ref a13, .ref a14, .ref a15, .null, .int 0, .int (-1)], zo a1 0 [.ref a3, .int 0], zo a2 0 [.ref a4, .int 0], zi G a3 16 (fun _ => 0), zi G a4 16 (fun _ => 0)] A t) A)) (by decide) ⟨Nat.le_of_ble_eq_true rfl, trivial⟩ ?_
  intro p e s m below meth c A ls E B hr hlocks hin hl
  have hl : lv_has ls 1 [(0, .ref a0)] := hl
  have B : zB G A s.heap [zo a0 9 [.ref a5, .ref a6, .ref a7, .ref a2, .ref a1, .ref a8, .ref a9, .ref a10, .ref a11, .ref a12, .ref a13, .ref a14, .ref a15, .null, .int 0, .int (-1)], zo a1 0 [.ref a3, .int 0], zo a2 0 [.ref a4, .int 0], zi G a3 16 (fun _ => 0), zi G a4 16 (fun _ => 0)] s.heap [] := B
  refine lv_aload_n E.x E.b dX11_shrunkCascade_0 rfl (lv_at hl 0 rfl) ?_
  refine z_get E B z_inX11 (ci := 9) rfl 4 (by decide) t_373 0 rfl rfl dX11_shrunkCascade_1 ?_
  refine lv_aload_n E.x E.b dX11_shrunkCascade_4 rfl (lv_at hl 0 rfl) ?_
  refine z_get E B z_inX11 (ci := 9) rfl 3 (by decide) t_372 0 rfl rfl dX11_shrunkCascade_5 ?_
  refine z_callv E B (wc := [zo a1 0 [.ref a3, .int 0], zo a2 0 [.ref a4, .int 0], zi G a3 16 (fun _ => 0), zi G a4 16 (fun _ => 0)]) (wr := [zo a0 9 [.ref a5, .ref a6, .ref a7, .ref a2, .ref a1, .ref a8, .ref a9, .ref a10, .ref a11, .ref a12, .ref a13, .ref a14, .ref a15, .null, .int 0, .int (-1)]]) [1, 2, 3, 4] [0] rfl rfl (by decide) (by decide) (z_runV E B (As := [.ref a2]) (rest := []) [1, 2, 3, 4] rfl (by decide) mv_X0_copy t_734 0 (ci := 0) rfl rfl rfl (c_X0_copy_64 l G _ a1 a2 a3 a4) rfl rfl ⟨Nat.le_of_ble_eq_true rfl, Nat.le_of_ble_eq_true rfl⟩ rfl hl.1 rfl (Nat.le_of_ble_eq_true rfl) dX11_shrunkCascade_8 ⟨(Nat.le_of_ble_eq_true rfl), (Nat.le_of_ble_eq_true rfl)⟩) (fun  t H locs hp hB J => ?_)
  have hq := hB
  have B := J _ hq
  have B : zB G A s.heap [zo a0 9 [.ref a5, .ref a6, .ref a7, .ref a2, .ref a1, .ref a8, .ref a9, .ref a10, .ref a11, .ref a12, .ref a13, .ref a14, .ref a15, .null, .int 0, .int (-1)], zo a1 0 [.ref a3, .int 0], zo a2 0 [.ref a4, .int 0], zi G a3 16 (fun _ => 0), zi G a4 16 (fun _ => 0)] _ _ := B
  refine lv_aload_n E.x E.b dX11_shrunkCascade_11 rfl (lv_at hl 0 rfl) ?_
  refine z_get E B z_inX11 (ci := 9) rfl 4 (by decide) t_373 0 rfl rfl dX11_shrunkCascade_12 ?_
  refine lv_aload_n E.x E.b dX11_shrunkCascade_15 rfl (lv_at hl 0 rfl) ?_
  refine z_calli E B (wc := [zo a0 9 [.ref a5, .ref a6, .ref a7, .ref a2, .ref a1, .ref a8, .ref a9, .ref a10, .ref a11, .ref a12, .ref a13, .ref a14, .ref a15, .null, .int 0, .int (-1)]]) (wr := [zo a1 0 [.ref a3, .int 0], zo a2 0 [.ref a4, .int 0], zi G a3 16 (fun _ => 0), zi G a4 16 (fun _ => 0)]) [0] [1, 2, 3, 4] rfl rfl (by decide) (by decide) (z_runV E B (As := []) (rest := [.ref a1]) [0] rfl (by decide) mv_X11_rows t_687 0 (ci := 9) rfl rfl rfl (c_X11_rows_65 l G _ a0 a5 a6 a7 a2 a1 a8 a9 a10 a11 a12 a13 a14 a15) rfl rfl ⟨Nat.le_of_ble_eq_true rfl, Nat.le_of_ble_eq_true rfl⟩ rfl hl.1 rfl (Nat.le_of_ble_eq_true rfl) dX11_shrunkCascade_16 ⟨(Nat.le_of_ble_eq_true rfl), (Nat.le_of_ble_eq_true rfl)⟩) (fun r t H locs hp hB J => ?_)
  have hq := hB
  have B := J _ hq
  have B : zB G A s.heap [zo a1 0 [.ref a3, .int 0], zo a2 0 [.ref a4, .int 0], zi G a3 16 (fun _ => 0), zi G a4 16 (fun _ => 0), zo a0 9 [.ref a5, .ref a6, .ref a7, .ref a2, .ref a1, .ref a8, .ref a9, .ref a10, .ref a11, .ref a12, .ref a13, .ref a14, .ref a15, .null, .int 0, .int (-1)]] _ _ := B
  have hp := hp.symm
  subst hp
  refine z_callv E B (wc := [zo a1 0 [.ref a3, .int 0]]) (wr := [zo a2 0 [.ref a4, .int 0], zi G a3 16 (fun _ => 0), zi G a4 16 (fun _ => 0), zo a0 9 [.ref a5, .ref a6, .ref a7, .ref a2, .ref a1, .ref a8, .ref a9, .ref a10, .ref a11, .ref a12, .ref a13, .ref a14, .ref a15, .null, .int 0, .int (-1)]]) [0] [1, 2, 3, 4] rfl rfl (by decide) (by decide) (z_runV E B (As := [.int 1]) (rest := []) [0] rfl (by decide) mv_X0_shrink t_735 0 (ci := 0) rfl rfl rfl (c_X0_shrink_66 l G _ a1 a3) rfl rfl ⟨Nat.le_of_ble_eq_true rfl, Nat.le_of_ble_eq_true rfl⟩ rfl hl.1 rfl (Nat.le_of_ble_eq_true rfl) dX11_shrunkCascade_19 ⟨(Nat.le_of_ble_eq_true rfl), (Nat.le_of_ble_eq_true rfl)⟩) (fun  t H locs hp hB J => ?_)
  have hq := hB
  have B := J _ hq
  have B : zB G A s.heap [zo a2 0 [.ref a4, .int 0], zi G a3 16 (fun _ => 0), zi G a4 16 (fun _ => 0), zo a0 9 [.ref a5, .ref a6, .ref a7, .ref a2, .ref a1, .ref a8, .ref a9, .ref a10, .ref a11, .ref a12, .ref a13, .ref a14, .ref a15, .null, .int 0, .int (-1)], zo a1 0 [.ref a3, .int 0]] _ _ := B
  refine lv_aload_n E.x E.b dX11_shrunkCascade_22 rfl (lv_at hl 0 rfl) ?_
  refine z_get E B z_inX11 (ci := 9) rfl 4 (by decide) t_373 3 rfl rfl dX11_shrunkCascade_23 ?_
  refine W.widen (k := 0) (n := 0) (Nat.le_of_ble_eq_true rfl) (Nat.le_of_ble_eq_true rfl) ?_
  exact z_aret E hr (Or.inl ⟨_, rfl⟩) hlocks B trivial (fun t ht => ⟨rfl, z_q B [3, 4, 0, 1, 2] (by decide) rfl ht⟩) dX11_shrunkCascade_26
set_option maxHeartbeats 4000000 in
set_option maxRecDepth 100000 in
theorem c_X4_keep_68 (l : Launch) (G : zGT) (sz : Nat) (a0 a1 a2 a3 a4 a5 : Nat) (f0 : Nat → Option Nat) (hf0_0 : f0 0 = some a3) : Met l yX4_keep (.code yX4_keep cX4_keep 2 none :: zT) ({ frames := 2, cells := 0, slots := 0, locals := 85 }) (va_Pc [.ref a0, .ref a1] (zPc G [zo a0 3 [.ref a2, .int 0, .int 0], zc G a2 40 f0, zo a3 0 [.ref a4, .int 0], zo a1 0 [.ref a5, .int 0], zi G a4 16 (fun _ => 0), zi G a5 16 (fun _ => 0)] sz)) ((fun A => va_Qv (fun (_ : Unit) => True) (fun (_ : Unit) t => zQ G [zo a0 3 [.ref a2, .int 0, .int 1], zc G a2 40 f0, zo a3 0 [.ref a4, .int 0], zo a1 0 [.ref a5, .int 0], zi G a4 16 (fun _ => 0), zi G a5 16 (fun _ => 0)] A t) A) (va_A [zo a0 3 [.ref a2, .int 0, .int 0], zc G a2 40 f0, zo a3 0 [.ref a4, .int 0], zo a1 0 [.ref a5, .int 0], zi G a4 16 (fun _ => 0), zi G a5 16 (fun _ => 0)] sz)) 0 0 (va_A [zo a0 3 [.ref a2, .int 0, .int 0], zc G a2 40 f0, zo a3 0 [.ref a4, .int 0], zo a1 0 [.ref a5, .int 0], zi G a4 16 (fun _ => 0), zi G a5 16 (fun _ => 0)] sz) := by
  refine z_start (y := yX4_keep) (bytes := cX4_keep) (maxL := 2) (ret := none) (av := [.ref a0, .ref a1]) (QA := (fun A => va_Qv (fun (_ : Unit) => True) (fun (_ : Unit) t => zQ G [zo a0 3 [.ref a2, .int 0, .int 1], zc G a2 40 f0, zo a3 0 [.ref a4, .int 0], zo a1 0 [.ref a5, .int 0], zi G a4 16 (fun _ => 0), zi G a5 16 (fun _ => 0)] A t) A)) (by decide) ⟨Nat.le_of_ble_eq_true rfl, trivial⟩ ?_
  intro p e s m below meth c A ls E B hr hlocks hin hl
  have hl : lv_has ls 2 [(0, .ref a0), (1, .ref a1)] := hl
  have B : zB G A s.heap [zo a0 3 [.ref a2, .int 0, .int 0], zc G a2 40 f0, zo a3 0 [.ref a4, .int 0], zo a1 0 [.ref a5, .int 0], zi G a4 16 (fun _ => 0), zi G a5 16 (fun _ => 0)] s.heap [] := B
  refine lv_aload_n E.x E.b dX4_keep_0 rfl (lv_at hl 0 rfl) ?_
  refine z_get E B z_inX4 (ci := 3) rfl 2 (by decide) t_271 0 rfl rfl dX4_keep_1 ?_
  refine lv_bipush (v := 40) E.x E.b dX4_keep_4 (by decide) ?_
  refine lv_icmp_ne (tgt := 32) E.x E.b dX4_keep_6 (by decide) (fun _ => ?_) (fun c => absurd c (by decide +kernel))
  refine lv_aload_n E.x E.b dX4_keep_32 rfl (lv_at hl 0 rfl) ?_
  refine z_get E B z_inX4 (ci := 3) rfl 0 (by decide) t_269 0 rfl rfl dX4_keep_33 ?_
  refine lv_aload_n E.x E.b dX4_keep_36 rfl (lv_at hl 0 rfl) ?_
  refine z_get E B z_inX4 (ci := 3) rfl 1 (by decide) t_270 0 rfl rfl dX4_keep_37 ?_
  refine lv_aload_n E.x E.b dX4_keep_40 rfl (lv_at hl 0 rfl) ?_
  refine z_get E B z_inX4 (ci := 3) rfl 2 (by decide) t_271 0 rfl rfl dX4_keep_41 ?_
  refine lv_iadd E.x E.b dX4_keep_44 (z_topi 0 (by decide +kernel) ?_)
  refine lv_bipush (v := 40) E.x E.b dX4_keep_45 (by decide) ?_
  refine lv_irem E.x E.b dX4_keep_47 (by decide) (z_topi 0 (by decide +kernel) ?_)
  refine z_aald E B 1 rfl (show ¬ ((0 : Int32) < 0 ∨ 40 ≤ (0 : Int32).toNatClampNeg) by decide +kernel) dX4_keep_48 (z_topq a3 hf0_0 ?_)
  refine lv_aload_n E.x E.b dX4_keep_49 rfl (lv_at hl 1 rfl) ?_
  refine z_callv E B (wc := [zo a3 0 [.ref a4, .int 0], zo a1 0 [.ref a5, .int 0], zi G a4 16 (fun _ => 0), zi G a5 16 (fun _ => 0)]) (wr := [zo a0 3 [.ref a2, .int 0, .int 0], zc G a2 40 f0]) [2, 3, 4, 5] [0, 1] rfl rfl (by decide) (by decide) (z_runV E B (As := [.ref a1]) (rest := []) [2, 3, 4, 5] rfl (by decide) mv_X0_copy t_695 0 (ci := 0) rfl rfl rfl (c_X0_copy_64 l G _ a3 a1 a4 a5) rfl rfl ⟨Nat.le_of_ble_eq_true rfl, Nat.le_of_ble_eq_true rfl⟩ rfl hl.1 rfl (Nat.le_of_ble_eq_true rfl) dX4_keep_50 ⟨(Nat.le_of_ble_eq_true rfl), (Nat.le_of_ble_eq_true rfl)⟩) (fun  t H locs hp hB J => ?_)
  have hq := hB
  have B := J _ hq
  have B : zB G A s.heap [zo a0 3 [.ref a2, .int 0, .int 0], zc G a2 40 f0, zo a3 0 [.ref a4, .int 0], zo a1 0 [.ref a5, .int 0], zi G a4 16 (fun _ => 0), zi G a5 16 (fun _ => 0)] _ _ := B
  refine lv_aload_n E.x E.b dX4_keep_53 rfl (lv_at hl 0 rfl) ?_
  refine lv_dup E.x E.b dX4_keep_54 rfl ?_
  refine z_get E B z_inX4 (ci := 3) rfl 2 (by decide) t_271 0 rfl rfl dX4_keep_55 ?_
  refine lv_iconst (v := 1) E.x E.b dX4_keep_58 (by decide) ?_
  refine lv_iadd E.x E.b dX4_keep_59 (z_topi 1 (by decide +kernel) ?_)
  refine z_put E B z_inX4 tyX4 tyX4_ok nmX4 (ci := 3) rfl 2 (by decide) rfl (ty := .int) (by decide +kernel) t_271 0 rfl (Nat.le_of_ble_eq_true rfl) rfl rfl dX4_keep_60 (fun H locs B => ?_)
  have B : zB G A s.heap [zo a0 3 [.ref a2, .int 0, .int 1], zc G a2 40 f0, zo a3 0 [.ref a4, .int 0], zo a1 0 [.ref a5, .int 0], zi G a4 16 (fun _ => 0), zi G a5 16 (fun _ => 0)] _ _ := B
  refine W.widen (k := 0) (n := 0) (Nat.le_of_ble_eq_true rfl) (Nat.le_of_ble_eq_true rfl) ?_
  exact z_vret E hr hlocks B trivial (fun t ht => z_q B [0, 1, 2, 3, 4, 5] (by decide) rfl ht) dX4_keep_63
set_option maxHeartbeats 4000000 in
set_option maxRecDepth 100000 in
theorem c_X0_run_69 (l : Launch) (G : zGT) (sz : Nat) (a0 a1 : Nat) : Met l yX0_run (.code yX0_run cX0_run 6 (some .int) :: zT) ({ frames := 0, cells := 0, slots := 0, locals := 64 }) (va_Pc [.ref a0, .int 0, .int 0, .int 0] (zPc G [zo a0 0 [.ref a1, .int 0]] sz)) ((fun A => va_Qi (fun (r : Int32) (_ : Unit) => r = 0) (fun (_ : Unit) t => zQ G [zo a0 0 [.ref a1, .int 0]] A t) A) (va_A [zo a0 0 [.ref a1, .int 0]] sz)) 0 0 (va_A [zo a0 0 [.ref a1, .int 0]] sz) := by
  refine z_start (y := yX0_run) (bytes := cX0_run) (maxL := 6) (ret := (some .int)) (av := [.ref a0, .int 0, .int 0, .int 0]) (QA := (fun A => va_Qi (fun (r : Int32) (_ : Unit) => r = 0) (fun (_ : Unit) t => zQ G [zo a0 0 [.ref a1, .int 0]] A t) A)) (by decide) ⟨Nat.le_of_ble_eq_true rfl, trivial⟩ ?_
  intro p e s m below meth c A ls E B hr hlocks hin hl
  have hl : lv_has ls 6 [(0, .ref a0), (1, .int 0), (2, .int 0), (3, .int 0)] := hl
  have B : zB G A s.heap [zo a0 0 [.ref a1, .int 0]] s.heap [] := B
  refine lv_iload_n E.x E.b dX0_run_0 rfl (lv_at hl 1 rfl) ?_
  refine lv_istore (lv' := [(4, .int 0), (0, .ref a0), (1, .int 0), (2, .int 0), (3, .int 0)]) E.x E.b dX0_run_1 hl (by decide) rfl (fun ls hl => ?_)
  refine lv_iload_n E.x E.b dX0_run_3 rfl (lv_at hl 3 rfl) ?_
  refine lv_istore (lv' := [(5, .int 0), (4, .int 0), (0, .ref a0), (1, .int 0), (2, .int 0), (3, .int 0)]) E.x E.b dX0_run_4 hl (by decide) rfl (fun ls hl => ?_)
  refine lv_iload E.x E.b dX0_run_6 (lv_at hl 0 rfl) ?_
  refine lv_iload_n E.x E.b dX0_run_8 rfl (lv_at hl 5 rfl) ?_
  refine lv_icmp_ge (tgt := 31) E.x E.b dX0_run_9 (by decide) (fun _ => ?_) (fun c => absurd (by decide +kernel) c)
  refine lv_iload E.x E.b dX0_run_31 (lv_at hl 1 rfl) ?_
  refine W.widen (k := 0) (n := 0) (Nat.le_of_ble_eq_true rfl) (Nat.le_of_ble_eq_true rfl) ?_
  exact z_iret E hr hlocks B (v := 0) rfl (fun t ht => z_q B [0] (by decide) rfl ht) dX0_run_33
set_option maxHeartbeats 4000000 in
set_option maxRecDepth 100000 in
theorem c_X0_makeOrder_70 (l : Launch) (G : zGT) (sz : Nat) (a0 a1 a2 : Nat) : Met l yX0_makeOrder (.code yX0_makeOrder cX0_makeOrder 4 none :: zT) ({ frames := 1, cells := 0, slots := 0, locals := 89 }) (va_Pc [.ref a0, .int 1, .ref a1] (zPc G [zo a0 0 [.ref a2, .int 0], zi G a1 64 (fun _ => 0)] sz)) ((fun A => va_Qv (fun (_ : Unit) => True) (fun (_ : Unit) t => zQ G [zo a0 0 [.ref a2, .int 0], zi G a1 64 (fun _ => 0)] A t) A) (va_A [zo a0 0 [.ref a2, .int 0], zi G a1 64 (fun _ => 0)] sz)) 0 0 (va_A [zo a0 0 [.ref a2, .int 0], zi G a1 64 (fun _ => 0)] sz) := by
  refine z_start (y := yX0_makeOrder) (bytes := cX0_makeOrder) (maxL := 4) (ret := none) (av := [.ref a0, .int 1, .ref a1]) (QA := (fun A => va_Qv (fun (_ : Unit) => True) (fun (_ : Unit) t => zQ G [zo a0 0 [.ref a2, .int 0], zi G a1 64 (fun _ => 0)] A t) A)) (by decide) ⟨Nat.le_of_ble_eq_true rfl, trivial⟩ ?_
  intro p e s m below meth c A ls E B hr hlocks hin hl
  have hl : lv_has ls 4 [(0, .ref a0), (1, .int 1), (2, .ref a1)] := hl
  have B : zB G A s.heap [zo a0 0 [.ref a2, .int 0], zi G a1 64 (fun _ => 0)] s.heap [] := B
  refine lv_iconst (v := 0) E.x E.b dX0_makeOrder_0 (by decide) ?_
  refine lv_istore_n (lv' := [(3, .int 0), (0, .ref a0), (1, .int 1), (2, .ref a1)]) E.x E.b dX0_makeOrder_1 rfl hl (by decide) rfl (fun ls hl => ?_)
  refine lv_iload_n E.x E.b dX0_makeOrder_2 rfl (lv_at hl 0 rfl) ?_
  refine lv_iload_n E.x E.b dX0_makeOrder_3 rfl (lv_at hl 2 rfl) ?_
  refine lv_icmp_ge (tgt := 32) E.x E.b dX0_makeOrder_4 (by decide) (fun c => absurd c (by decide +kernel)) (fun _ => ?_)
  refine lv_iload_n E.x E.b dX0_makeOrder_7 rfl (lv_at hl 0 rfl) ?_
  refine lv_aload_n E.x E.b dX0_makeOrder_8 rfl (lv_at hl 3 rfl) ?_
  refine z_ilen E B 1 rfl (v := 64) (by decide +kernel) dX0_makeOrder_9 ?_
  refine lv_icmp_ge (tgt := 32) E.x E.b dX0_makeOrder_10 (by decide) (fun c => absurd c (by decide +kernel)) (fun _ => ?_)
  refine lv_aload_n E.x E.b dX0_makeOrder_13 rfl (lv_at hl 3 rfl) ?_
  refine lv_iload_n E.x E.b dX0_makeOrder_14 rfl (lv_at hl 0 rfl) ?_
  refine lv_aload_n E.x E.b dX0_makeOrder_15 rfl (lv_at hl 1 rfl) ?_
  refine lv_iload_n E.x E.b dX0_makeOrder_16 rfl (lv_at hl 0 rfl) ?_
  refine lv_iconst (v := 0) E.x E.b dX0_makeOrder_17 (by decide) ?_
  refine lv_aload_n E.x E.b dX0_makeOrder_18 rfl (lv_at hl 1 rfl) ?_
  refine z_get E B z_inX0 (ci := 0) rfl 1 (by decide) t_250 0 rfl rfl dX0_makeOrder_19 ?_
  refine z_calli E B (wc := [zo a0 0 [.ref a2, .int 0]]) (wr := [zi G a1 64 (fun _ => 0)]) [0] [1] rfl rfl (by decide) (by decide) (z_runV E B (As := [.int 0, .int 0, .int 0]) (rest := [.int 0, .ref a1]) [0] rfl (by decide) mv_X0_run t_798 0 (ci := 0) rfl rfl rfl (c_X0_run_69 l G _ a0 a2) rfl rfl ⟨Nat.le_of_ble_eq_true rfl, Nat.le_of_ble_eq_true rfl⟩ rfl hl.1 rfl (Nat.le_of_ble_eq_true rfl) dX0_makeOrder_22 ⟨(Nat.le_of_ble_eq_true rfl), (Nat.le_of_ble_eq_true rfl)⟩) (fun r t H locs hp hB J => ?_)
  have hq := hB
  have B := J _ hq
  have B : zB G A s.heap [zi G a1 64 (fun _ => 0), zo a0 0 [.ref a2, .int 0]] _ _ := B
  have hp := hp.symm
  subst hp
  refine z_iast0 E B 0 rfl (show ¬ ((0 : Int32) < 0 ∨ 64 ≤ (0 : Int32).toNatClampNeg) by decide +kernel) dX0_makeOrder_25 (fun H locs B => ?_)
  have B : zB G A s.heap [zi G a1 64 (fun _ => 0), zo a0 0 [.ref a2, .int 0]] _ _ := B
  refine lv_iinc (v := 1) (lv' := [(3, .int 1), (0, .ref a0), (1, .int 1), (2, .ref a1)]) E.x E.b dX0_makeOrder_26 hl (k := 0) rfl (by decide +kernel) (by decide) rfl (fun ls hl => ?_)
  refine lv_goto (tgt := 2) E.x E.b dX0_makeOrder_29 (by decide) ?_
  refine lv_iload_n E.x E.b dX0_makeOrder_2 rfl (lv_at hl 0 rfl) ?_
  refine lv_iload_n E.x E.b dX0_makeOrder_3 rfl (lv_at hl 2 rfl) ?_
  refine lv_icmp_ge (tgt := 32) E.x E.b dX0_makeOrder_4 (by decide) (fun _ => ?_) (fun c => absurd (by decide +kernel) c)
  refine W.widen (k := 0) (n := 0) (Nat.le_of_ble_eq_true rfl) (Nat.le_of_ble_eq_true rfl) ?_
  exact z_vret E hr hlocks B trivial (fun t ht => z_q B [1, 0] (by decide) rfl ht) dX0_makeOrder_32
set_option maxHeartbeats 4000000 in
set_option maxRecDepth 100000 in
theorem c_J6_bitCount_0f7a4_71 (l : Launch) (G : zGT) (sz : Nat) : Met l yJ6_bitCount_0f7a4 (.code yJ6_bitCount_0f7a4 cJ6_bitCount_0f7a4 1 (some .int) :: zT) ({ frames := 0, cells := 0, slots := 0, locals := 64 }) (va_Pc [.int 0] (zPc G [] sz)) ((fun A => va_Qi (fun (r : Int32) (_ : Unit) => r = 0) (fun (_ : Unit) t => zQ G [] A t) A) (va_A [] sz)) 0 0 (va_A [] sz) := by
  refine z_start (y := yJ6_bitCount_0f7a4) (bytes := cJ6_bitCount_0f7a4) (maxL := 1) (ret := (some .int)) (av := [.int 0]) (QA := (fun A => va_Qi (fun (r : Int32) (_ : Unit) => r = 0) (fun (_ : Unit) t => zQ G [] A t) A)) (by decide) ⟨Nat.le_of_ble_eq_true rfl, trivial⟩ ?_
  intro p e s m below meth c A ls E B hr hlocks hin hl
  have hl : lv_has ls 1 [(0, .int 0)] := hl
  have B : zB G A s.heap [] s.heap [] := B
  refine lv_iload_n E.x E.b dJ6_bitCount_0f7a4_0 rfl (lv_at hl 0 rfl) ?_
  refine lv_iload_n E.x E.b dJ6_bitCount_0f7a4_1 rfl (lv_at hl 0 rfl) ?_
  refine lv_iconst (v := 1) E.x E.b dJ6_bitCount_0f7a4_2 (by decide) ?_
  refine lv_iushr (v := 0) E.x E.b dJ6_bitCount_0f7a4_3 (by decide +kernel) ?_
  refine lv_ldcw E.x E.b E.ow (E.w t_761) dJ6_bitCount_0f7a4_4 ?_
  refine lv_iand E.x E.b dJ6_bitCount_0f7a4_7 (z_topi 0 (by decide +kernel) ?_)
  refine lv_isub E.x E.b dJ6_bitCount_0f7a4_8 (z_topi 0 (by decide +kernel) ?_)
  refine lv_istore_n (lv' := [(0, .int 0)]) E.x E.b dJ6_bitCount_0f7a4_9 rfl hl (by decide) rfl (fun ls hl => ?_)
  refine lv_iload_n E.x E.b dJ6_bitCount_0f7a4_10 rfl (lv_at hl 0 rfl) ?_
  refine lv_ldcw E.x E.b E.ow (E.w t_762) dJ6_bitCount_0f7a4_11 ?_
  refine lv_iand E.x E.b dJ6_bitCount_0f7a4_14 (z_topi 0 (by decide +kernel) ?_)
  refine lv_iload_n E.x E.b dJ6_bitCount_0f7a4_15 rfl (lv_at hl 0 rfl) ?_
  refine lv_iconst (v := 2) E.x E.b dJ6_bitCount_0f7a4_16 (by decide) ?_
  refine lv_iushr (v := 0) E.x E.b dJ6_bitCount_0f7a4_17 (by decide +kernel) ?_
  refine lv_ldcw E.x E.b E.ow (E.w t_762) dJ6_bitCount_0f7a4_18 ?_
  refine lv_iand E.x E.b dJ6_bitCount_0f7a4_21 (z_topi 0 (by decide +kernel) ?_)
  refine lv_iadd E.x E.b dJ6_bitCount_0f7a4_22 (z_topi 0 (by decide +kernel) ?_)
  refine lv_istore_n (lv' := [(0, .int 0)]) E.x E.b dJ6_bitCount_0f7a4_23 rfl hl (by decide) rfl (fun ls hl => ?_)
  refine lv_iload_n E.x E.b dJ6_bitCount_0f7a4_24 rfl (lv_at hl 0 rfl) ?_
  refine lv_iload_n E.x E.b dJ6_bitCount_0f7a4_25 rfl (lv_at hl 0 rfl) ?_
  refine lv_iconst (v := 4) E.x E.b dJ6_bitCount_0f7a4_26 (by decide) ?_
  refine lv_iushr (v := 0) E.x E.b dJ6_bitCount_0f7a4_27 (by decide +kernel) ?_
  refine lv_iadd E.x E.b dJ6_bitCount_0f7a4_28 (z_topi 0 (by decide +kernel) ?_)
  refine lv_ldcw E.x E.b E.ow (E.w t_763) dJ6_bitCount_0f7a4_29 ?_
  refine lv_iand E.x E.b dJ6_bitCount_0f7a4_32 (z_topi 0 (by decide +kernel) ?_)
  refine lv_istore_n (lv' := [(0, .int 0)]) E.x E.b dJ6_bitCount_0f7a4_33 rfl hl (by decide) rfl (fun ls hl => ?_)
  refine lv_iload_n E.x E.b dJ6_bitCount_0f7a4_34 rfl (lv_at hl 0 rfl) ?_
  refine lv_iload_n E.x E.b dJ6_bitCount_0f7a4_35 rfl (lv_at hl 0 rfl) ?_
  refine lv_bipush (v := 8) E.x E.b dJ6_bitCount_0f7a4_36 (by decide) ?_
  refine lv_iushr (v := 0) E.x E.b dJ6_bitCount_0f7a4_38 (by decide +kernel) ?_
  refine lv_iadd E.x E.b dJ6_bitCount_0f7a4_39 (z_topi 0 (by decide +kernel) ?_)
  refine lv_istore_n (lv' := [(0, .int 0)]) E.x E.b dJ6_bitCount_0f7a4_40 rfl hl (by decide) rfl (fun ls hl => ?_)
  refine lv_iload_n E.x E.b dJ6_bitCount_0f7a4_41 rfl (lv_at hl 0 rfl) ?_
  refine lv_iload_n E.x E.b dJ6_bitCount_0f7a4_42 rfl (lv_at hl 0 rfl) ?_
  refine lv_bipush (v := 16) E.x E.b dJ6_bitCount_0f7a4_43 (by decide) ?_
  refine lv_iushr (v := 0) E.x E.b dJ6_bitCount_0f7a4_45 (by decide +kernel) ?_
  refine lv_iadd E.x E.b dJ6_bitCount_0f7a4_46 (z_topi 0 (by decide +kernel) ?_)
  refine lv_istore_n (lv' := [(0, .int 0)]) E.x E.b dJ6_bitCount_0f7a4_47 rfl hl (by decide) rfl (fun ls hl => ?_)
  refine lv_iload_n E.x E.b dJ6_bitCount_0f7a4_48 rfl (lv_at hl 0 rfl) ?_
  refine lv_bipush (v := 63) E.x E.b dJ6_bitCount_0f7a4_49 (by decide) ?_
  refine lv_iand E.x E.b dJ6_bitCount_0f7a4_51 (z_topi 0 (by decide +kernel) ?_)
  refine W.widen (k := 0) (n := 0) (Nat.le_of_ble_eq_true rfl) (Nat.le_of_ble_eq_true rfl) ?_
  exact z_iret E hr hlocks B (v := 0) rfl (fun t ht => z_q B [] (by decide) rfl ht) dJ6_bitCount_0f7a4_52
set_option maxHeartbeats 4000000 in
set_option maxRecDepth 100000 in
theorem c_X1_lead_72 (l : Launch) (G : zGT) (sz : Nat) (a0 a1 a2 a3 : Nat) : Met l yX1_lead (.code yX1_lead cX1_lead 7 none :: zT) ({ frames := 0, cells := 0, slots := 0, locals := 64 }) (va_Pc [.ref a0, .int 0, .int 0, .int 1, .int 0] (zPc G [zo a0 1 [.ref a1, .ref a2, .ref a3]] sz)) ((fun A => va_Qv (fun (_ : Unit) => True) (fun (_ : Unit) t => zQ G [zo a0 1 [.ref a1, .ref a2, .ref a3]] A t) A) (va_A [zo a0 1 [.ref a1, .ref a2, .ref a3]] sz)) 0 0 (va_A [zo a0 1 [.ref a1, .ref a2, .ref a3]] sz) := by
  refine z_start (y := yX1_lead) (bytes := cX1_lead) (maxL := 7) (ret := none) (av := [.ref a0, .int 0, .int 0, .int 1, .int 0]) (QA := (fun A => va_Qv (fun (_ : Unit) => True) (fun (_ : Unit) t => zQ G [zo a0 1 [.ref a1, .ref a2, .ref a3]] A t) A)) (by decide) ⟨Nat.le_of_ble_eq_true rfl, trivial⟩ ?_
  intro p e s m below meth c A ls E B hr hlocks hin hl
  have hl : lv_has ls 7 [(0, .ref a0), (1, .int 0), (2, .int 0), (3, .int 1), (4, .int 0)] := hl
  have B : zB G A s.heap [zo a0 1 [.ref a1, .ref a2, .ref a3]] s.heap [] := B
  refine lv_iload_n E.x E.b dX1_lead_0 rfl (lv_at hl 2 rfl) ?_
  refine lv_istore (lv' := [(5, .int 0), (0, .ref a0), (1, .int 0), (2, .int 0), (3, .int 1), (4, .int 0)]) E.x E.b dX1_lead_1 hl (by decide) rfl (fun ls hl => ?_)
  refine lv_iconst (v := 0) E.x E.b dX1_lead_3 (by decide) ?_
  refine lv_istore (lv' := [(6, .int 0), (5, .int 0), (0, .ref a0), (1, .int 0), (2, .int 0), (3, .int 1), (4, .int 0)]) E.x E.b dX1_lead_4 hl (by decide) rfl (fun ls hl => ?_)
  refine lv_iload E.x E.b dX1_lead_6 (lv_at hl 0 rfl) ?_
  refine lv_bipush (v := 6) E.x E.b dX1_lead_8 (by decide) ?_
  refine lv_icmp_ge (tgt := 57) E.x E.b dX1_lead_10 (by decide) (fun c => absurd c (by decide +kernel)) (fun _ => ?_)
  refine lv_iload_n E.x E.b dX1_lead_13 rfl (lv_at hl 3 rfl) ?_
  refine lv_iload E.x E.b dX1_lead_14 (lv_at hl 1 rfl) ?_
  refine lv_iconst (v := (-1)) E.x E.b dX1_lead_16 (by decide) ?_
  refine lv_ixor E.x E.b dX1_lead_17 (z_topi (-1) (by decide +kernel) ?_)
  refine lv_iand E.x E.b dX1_lead_18 (z_topi 0 (by decide +kernel) ?_)
  refine lv_iconst (v := 1) E.x E.b dX1_lead_19 (by decide) ?_
  refine lv_iload E.x E.b dX1_lead_20 (lv_at hl 0 rfl) ?_
  refine lv_ishl E.x E.b dX1_lead_22 (z_topi 1 (by decide +kernel) ?_)
  refine lv_iand E.x E.b dX1_lead_23 (z_topi 0 (by decide +kernel) ?_)
  refine lv_if_eq (tgt := 51) E.x E.b dX1_lead_24 (by decide) (fun _ => ?_) (fun c => absurd (by decide +kernel) c)
  refine lv_iinc (v := 1) (lv' := [(6, .int 1), (5, .int 0), (0, .ref a0), (1, .int 0), (2, .int 0), (3, .int 1), (4, .int 0)]) E.x E.b dX1_lead_51 hl (k := 0) rfl (by decide +kernel) (by decide) rfl (fun ls hl => ?_)
  refine lv_goto (tgt := 6) E.x E.b dX1_lead_54 (by decide) ?_
  refine lv_iload E.x E.b dX1_lead_6 (lv_at hl 0 rfl) ?_
  refine lv_bipush (v := 6) E.x E.b dX1_lead_8 (by decide) ?_
  refine lv_icmp_ge (tgt := 57) E.x E.b dX1_lead_10 (by decide) (fun c => absurd c (by decide +kernel)) (fun _ => ?_)
  refine lv_iload_n E.x E.b dX1_lead_13 rfl (lv_at hl 3 rfl) ?_
  refine lv_iload E.x E.b dX1_lead_14 (lv_at hl 1 rfl) ?_
  refine lv_iconst (v := (-1)) E.x E.b dX1_lead_16 (by decide) ?_
  refine lv_ixor E.x E.b dX1_lead_17 (z_topi (-1) (by decide +kernel) ?_)
  refine lv_iand E.x E.b dX1_lead_18 (z_topi 0 (by decide +kernel) ?_)
  refine lv_iconst (v := 1) E.x E.b dX1_lead_19 (by decide) ?_
  refine lv_iload E.x E.b dX1_lead_20 (lv_at hl 0 rfl) ?_
  refine lv_ishl E.x E.b dX1_lead_22 (z_topi 2 (by decide +kernel) ?_)
  refine lv_iand E.x E.b dX1_lead_23 (z_topi 0 (by decide +kernel) ?_)
  refine lv_if_eq (tgt := 51) E.x E.b dX1_lead_24 (by decide) (fun _ => ?_) (fun c => absurd (by decide +kernel) c)
  refine lv_iinc (v := 2) (lv' := [(6, .int 2), (5, .int 0), (0, .ref a0), (1, .int 0), (2, .int 0), (3, .int 1), (4, .int 0)]) E.x E.b dX1_lead_51 hl (k := 0) rfl (by decide +kernel) (by decide) rfl (fun ls hl => ?_)
  refine lv_goto (tgt := 6) E.x E.b dX1_lead_54 (by decide) ?_
  refine lv_iload E.x E.b dX1_lead_6 (lv_at hl 0 rfl) ?_
  refine lv_bipush (v := 6) E.x E.b dX1_lead_8 (by decide) ?_
  refine lv_icmp_ge (tgt := 57) E.x E.b dX1_lead_10 (by decide) (fun c => absurd c (by decide +kernel)) (fun _ => ?_)
  refine lv_iload_n E.x E.b dX1_lead_13 rfl (lv_at hl 3 rfl) ?_
  refine lv_iload E.x E.b dX1_lead_14 (lv_at hl 1 rfl) ?_
  refine lv_iconst (v := (-1)) E.x E.b dX1_lead_16 (by decide) ?_
  refine lv_ixor E.x E.b dX1_lead_17 (z_topi (-1) (by decide +kernel) ?_)
  refine lv_iand E.x E.b dX1_lead_18 (z_topi 0 (by decide +kernel) ?_)
  refine lv_iconst (v := 1) E.x E.b dX1_lead_19 (by decide) ?_
  refine lv_iload E.x E.b dX1_lead_20 (lv_at hl 0 rfl) ?_
  refine lv_ishl E.x E.b dX1_lead_22 (z_topi 4 (by decide +kernel) ?_)
  refine lv_iand E.x E.b dX1_lead_23 (z_topi 0 (by decide +kernel) ?_)
  refine lv_if_eq (tgt := 51) E.x E.b dX1_lead_24 (by decide) (fun _ => ?_) (fun c => absurd (by decide +kernel) c)
  refine lv_iinc (v := 3) (lv' := [(6, .int 3), (5, .int 0), (0, .ref a0), (1, .int 0), (2, .int 0), (3, .int 1), (4, .int 0)]) E.x E.b dX1_lead_51 hl (k := 0) rfl (by decide +kernel) (by decide) rfl (fun ls hl => ?_)
  refine lv_goto (tgt := 6) E.x E.b dX1_lead_54 (by decide) ?_
  refine lv_iload E.x E.b dX1_lead_6 (lv_at hl 0 rfl) ?_
  refine lv_bipush (v := 6) E.x E.b dX1_lead_8 (by decide) ?_
  refine lv_icmp_ge (tgt := 57) E.x E.b dX1_lead_10 (by decide) (fun c => absurd c (by decide +kernel)) (fun _ => ?_)
  refine lv_iload_n E.x E.b dX1_lead_13 rfl (lv_at hl 3 rfl) ?_
  refine lv_iload E.x E.b dX1_lead_14 (lv_at hl 1 rfl) ?_
  refine lv_iconst (v := (-1)) E.x E.b dX1_lead_16 (by decide) ?_
  refine lv_ixor E.x E.b dX1_lead_17 (z_topi (-1) (by decide +kernel) ?_)
  refine lv_iand E.x E.b dX1_lead_18 (z_topi 0 (by decide +kernel) ?_)
  refine lv_iconst (v := 1) E.x E.b dX1_lead_19 (by decide) ?_
  refine lv_iload E.x E.b dX1_lead_20 (lv_at hl 0 rfl) ?_
  refine lv_ishl E.x E.b dX1_lead_22 (z_topi 8 (by decide +kernel) ?_)
  refine lv_iand E.x E.b dX1_lead_23 (z_topi 0 (by decide +kernel) ?_)
  refine lv_if_eq (tgt := 51) E.x E.b dX1_lead_24 (by decide) (fun _ => ?_) (fun c => absurd (by decide +kernel) c)
  refine lv_iinc (v := 4) (lv' := [(6, .int 4), (5, .int 0), (0, .ref a0), (1, .int 0), (2, .int 0), (3, .int 1), (4, .int 0)]) E.x E.b dX1_lead_51 hl (k := 0) rfl (by decide +kernel) (by decide) rfl (fun ls hl => ?_)
  refine lv_goto (tgt := 6) E.x E.b dX1_lead_54 (by decide) ?_
  refine lv_iload E.x E.b dX1_lead_6 (lv_at hl 0 rfl) ?_
  refine lv_bipush (v := 6) E.x E.b dX1_lead_8 (by decide) ?_
  refine lv_icmp_ge (tgt := 57) E.x E.b dX1_lead_10 (by decide) (fun c => absurd c (by decide +kernel)) (fun _ => ?_)
  refine lv_iload_n E.x E.b dX1_lead_13 rfl (lv_at hl 3 rfl) ?_
  refine lv_iload E.x E.b dX1_lead_14 (lv_at hl 1 rfl) ?_
  refine lv_iconst (v := (-1)) E.x E.b dX1_lead_16 (by decide) ?_
  refine lv_ixor E.x E.b dX1_lead_17 (z_topi (-1) (by decide +kernel) ?_)
  refine lv_iand E.x E.b dX1_lead_18 (z_topi 0 (by decide +kernel) ?_)
  refine lv_iconst (v := 1) E.x E.b dX1_lead_19 (by decide) ?_
  refine lv_iload E.x E.b dX1_lead_20 (lv_at hl 0 rfl) ?_
  refine lv_ishl E.x E.b dX1_lead_22 (z_topi 16 (by decide +kernel) ?_)
  refine lv_iand E.x E.b dX1_lead_23 (z_topi 0 (by decide +kernel) ?_)
  refine lv_if_eq (tgt := 51) E.x E.b dX1_lead_24 (by decide) (fun _ => ?_) (fun c => absurd (by decide +kernel) c)
  refine lv_iinc (v := 5) (lv' := [(6, .int 5), (5, .int 0), (0, .ref a0), (1, .int 0), (2, .int 0), (3, .int 1), (4, .int 0)]) E.x E.b dX1_lead_51 hl (k := 0) rfl (by decide +kernel) (by decide) rfl (fun ls hl => ?_)
  refine lv_goto (tgt := 6) E.x E.b dX1_lead_54 (by decide) ?_
  refine lv_iload E.x E.b dX1_lead_6 (lv_at hl 0 rfl) ?_
  refine lv_bipush (v := 6) E.x E.b dX1_lead_8 (by decide) ?_
  refine lv_icmp_ge (tgt := 57) E.x E.b dX1_lead_10 (by decide) (fun c => absurd c (by decide +kernel)) (fun _ => ?_)
  refine lv_iload_n E.x E.b dX1_lead_13 rfl (lv_at hl 3 rfl) ?_
  refine lv_iload E.x E.b dX1_lead_14 (lv_at hl 1 rfl) ?_
  refine lv_iconst (v := (-1)) E.x E.b dX1_lead_16 (by decide) ?_
  refine lv_ixor E.x E.b dX1_lead_17 (z_topi (-1) (by decide +kernel) ?_)
  refine lv_iand E.x E.b dX1_lead_18 (z_topi 0 (by decide +kernel) ?_)
  refine lv_iconst (v := 1) E.x E.b dX1_lead_19 (by decide) ?_
  refine lv_iload E.x E.b dX1_lead_20 (lv_at hl 0 rfl) ?_
  refine lv_ishl E.x E.b dX1_lead_22 (z_topi 32 (by decide +kernel) ?_)
  refine lv_iand E.x E.b dX1_lead_23 (z_topi 0 (by decide +kernel) ?_)
  refine lv_if_eq (tgt := 51) E.x E.b dX1_lead_24 (by decide) (fun _ => ?_) (fun c => absurd (by decide +kernel) c)
  refine lv_iinc (v := 6) (lv' := [(6, .int 6), (5, .int 0), (0, .ref a0), (1, .int 0), (2, .int 0), (3, .int 1), (4, .int 0)]) E.x E.b dX1_lead_51 hl (k := 0) rfl (by decide +kernel) (by decide) rfl (fun ls hl => ?_)
  refine lv_goto (tgt := 6) E.x E.b dX1_lead_54 (by decide) ?_
  refine lv_iload E.x E.b dX1_lead_6 (lv_at hl 0 rfl) ?_
  refine lv_bipush (v := 6) E.x E.b dX1_lead_8 (by decide) ?_
  refine lv_icmp_ge (tgt := 57) E.x E.b dX1_lead_10 (by decide) (fun _ => ?_) (fun c => absurd (by decide +kernel) c)
  refine lv_iconst (v := 0) E.x E.b dX1_lead_57 (by decide) ?_
  refine lv_istore (lv' := [(6, .int 0), (5, .int 0), (0, .ref a0), (1, .int 0), (2, .int 0), (3, .int 1), (4, .int 0)]) E.x E.b dX1_lead_58 hl (by decide) rfl (fun ls hl => ?_)
  refine lv_iload E.x E.b dX1_lead_60 (lv_at hl 0 rfl) ?_
  refine lv_bipush (v := 6) E.x E.b dX1_lead_62 (by decide) ?_
  refine lv_icmp_ge (tgt := 113) E.x E.b dX1_lead_64 (by decide) (fun c => absurd c (by decide +kernel)) (fun _ => ?_)
  refine lv_iload E.x E.b dX1_lead_67 (lv_at hl 1 rfl) ?_
  refine lv_iload_n E.x E.b dX1_lead_69 rfl (lv_at hl 3 rfl) ?_
  refine lv_iconst (v := (-1)) E.x E.b dX1_lead_70 (by decide) ?_
  refine lv_ixor E.x E.b dX1_lead_71 (z_topi (-1) (by decide +kernel) ?_)
  refine lv_iand E.x E.b dX1_lead_72 (z_topi 0 (by decide +kernel) ?_)
  refine lv_iconst (v := 1) E.x E.b dX1_lead_73 (by decide) ?_
  refine lv_iload E.x E.b dX1_lead_74 (lv_at hl 0 rfl) ?_
  refine lv_ishl E.x E.b dX1_lead_76 (z_topi 1 (by decide +kernel) ?_)
  refine lv_iand E.x E.b dX1_lead_77 (z_topi 0 (by decide +kernel) ?_)
  refine lv_if_eq (tgt := 107) E.x E.b dX1_lead_78 (by decide) (fun _ => ?_) (fun c => absurd (by decide +kernel) c)
  refine lv_iinc (v := 1) (lv' := [(6, .int 1), (5, .int 0), (0, .ref a0), (1, .int 0), (2, .int 0), (3, .int 1), (4, .int 0)]) E.x E.b dX1_lead_107 hl (k := 0) rfl (by decide +kernel) (by decide) rfl (fun ls hl => ?_)
  refine lv_goto (tgt := 60) E.x E.b dX1_lead_110 (by decide) ?_
  refine lv_iload E.x E.b dX1_lead_60 (lv_at hl 0 rfl) ?_
  refine lv_bipush (v := 6) E.x E.b dX1_lead_62 (by decide) ?_
  refine lv_icmp_ge (tgt := 113) E.x E.b dX1_lead_64 (by decide) (fun c => absurd c (by decide +kernel)) (fun _ => ?_)
  refine lv_iload E.x E.b dX1_lead_67 (lv_at hl 1 rfl) ?_
  refine lv_iload_n E.x E.b dX1_lead_69 rfl (lv_at hl 3 rfl) ?_
  refine lv_iconst (v := (-1)) E.x E.b dX1_lead_70 (by decide) ?_
  refine lv_ixor E.x E.b dX1_lead_71 (z_topi (-1) (by decide +kernel) ?_)
  refine lv_iand E.x E.b dX1_lead_72 (z_topi 0 (by decide +kernel) ?_)
  refine lv_iconst (v := 1) E.x E.b dX1_lead_73 (by decide) ?_
  refine lv_iload E.x E.b dX1_lead_74 (lv_at hl 0 rfl) ?_
  refine lv_ishl E.x E.b dX1_lead_76 (z_topi 2 (by decide +kernel) ?_)
  refine lv_iand E.x E.b dX1_lead_77 (z_topi 0 (by decide +kernel) ?_)
  refine lv_if_eq (tgt := 107) E.x E.b dX1_lead_78 (by decide) (fun _ => ?_) (fun c => absurd (by decide +kernel) c)
  refine lv_iinc (v := 2) (lv' := [(6, .int 2), (5, .int 0), (0, .ref a0), (1, .int 0), (2, .int 0), (3, .int 1), (4, .int 0)]) E.x E.b dX1_lead_107 hl (k := 0) rfl (by decide +kernel) (by decide) rfl (fun ls hl => ?_)
  refine lv_goto (tgt := 60) E.x E.b dX1_lead_110 (by decide) ?_
  refine lv_iload E.x E.b dX1_lead_60 (lv_at hl 0 rfl) ?_
  refine lv_bipush (v := 6) E.x E.b dX1_lead_62 (by decide) ?_
  refine lv_icmp_ge (tgt := 113) E.x E.b dX1_lead_64 (by decide) (fun c => absurd c (by decide +kernel)) (fun _ => ?_)
  refine lv_iload E.x E.b dX1_lead_67 (lv_at hl 1 rfl) ?_
  refine lv_iload_n E.x E.b dX1_lead_69 rfl (lv_at hl 3 rfl) ?_
  refine lv_iconst (v := (-1)) E.x E.b dX1_lead_70 (by decide) ?_
  refine lv_ixor E.x E.b dX1_lead_71 (z_topi (-1) (by decide +kernel) ?_)
  refine lv_iand E.x E.b dX1_lead_72 (z_topi 0 (by decide +kernel) ?_)
  refine lv_iconst (v := 1) E.x E.b dX1_lead_73 (by decide) ?_
  refine lv_iload E.x E.b dX1_lead_74 (lv_at hl 0 rfl) ?_
  refine lv_ishl E.x E.b dX1_lead_76 (z_topi 4 (by decide +kernel) ?_)
  refine lv_iand E.x E.b dX1_lead_77 (z_topi 0 (by decide +kernel) ?_)
  refine lv_if_eq (tgt := 107) E.x E.b dX1_lead_78 (by decide) (fun _ => ?_) (fun c => absurd (by decide +kernel) c)
  refine lv_iinc (v := 3) (lv' := [(6, .int 3), (5, .int 0), (0, .ref a0), (1, .int 0), (2, .int 0), (3, .int 1), (4, .int 0)]) E.x E.b dX1_lead_107 hl (k := 0) rfl (by decide +kernel) (by decide) rfl (fun ls hl => ?_)
  refine lv_goto (tgt := 60) E.x E.b dX1_lead_110 (by decide) ?_
  refine lv_iload E.x E.b dX1_lead_60 (lv_at hl 0 rfl) ?_
  refine lv_bipush (v := 6) E.x E.b dX1_lead_62 (by decide) ?_
  refine lv_icmp_ge (tgt := 113) E.x E.b dX1_lead_64 (by decide) (fun c => absurd c (by decide +kernel)) (fun _ => ?_)
  refine lv_iload E.x E.b dX1_lead_67 (lv_at hl 1 rfl) ?_
  refine lv_iload_n E.x E.b dX1_lead_69 rfl (lv_at hl 3 rfl) ?_
  refine lv_iconst (v := (-1)) E.x E.b dX1_lead_70 (by decide) ?_
  refine lv_ixor E.x E.b dX1_lead_71 (z_topi (-1) (by decide +kernel) ?_)
  refine lv_iand E.x E.b dX1_lead_72 (z_topi 0 (by decide +kernel) ?_)
  refine lv_iconst (v := 1) E.x E.b dX1_lead_73 (by decide) ?_
  refine lv_iload E.x E.b dX1_lead_74 (lv_at hl 0 rfl) ?_
  refine lv_ishl E.x E.b dX1_lead_76 (z_topi 8 (by decide +kernel) ?_)
  refine lv_iand E.x E.b dX1_lead_77 (z_topi 0 (by decide +kernel) ?_)
  refine lv_if_eq (tgt := 107) E.x E.b dX1_lead_78 (by decide) (fun _ => ?_) (fun c => absurd (by decide +kernel) c)
  refine lv_iinc (v := 4) (lv' := [(6, .int 4), (5, .int 0), (0, .ref a0), (1, .int 0), (2, .int 0), (3, .int 1), (4, .int 0)]) E.x E.b dX1_lead_107 hl (k := 0) rfl (by decide +kernel) (by decide) rfl (fun ls hl => ?_)
  refine lv_goto (tgt := 60) E.x E.b dX1_lead_110 (by decide) ?_
  refine lv_iload E.x E.b dX1_lead_60 (lv_at hl 0 rfl) ?_
  refine lv_bipush (v := 6) E.x E.b dX1_lead_62 (by decide) ?_
  refine lv_icmp_ge (tgt := 113) E.x E.b dX1_lead_64 (by decide) (fun c => absurd c (by decide +kernel)) (fun _ => ?_)
  refine lv_iload E.x E.b dX1_lead_67 (lv_at hl 1 rfl) ?_
  refine lv_iload_n E.x E.b dX1_lead_69 rfl (lv_at hl 3 rfl) ?_
  refine lv_iconst (v := (-1)) E.x E.b dX1_lead_70 (by decide) ?_
  refine lv_ixor E.x E.b dX1_lead_71 (z_topi (-1) (by decide +kernel) ?_)
  refine lv_iand E.x E.b dX1_lead_72 (z_topi 0 (by decide +kernel) ?_)
  refine lv_iconst (v := 1) E.x E.b dX1_lead_73 (by decide) ?_
  refine lv_iload E.x E.b dX1_lead_74 (lv_at hl 0 rfl) ?_
  refine lv_ishl E.x E.b dX1_lead_76 (z_topi 16 (by decide +kernel) ?_)
  refine lv_iand E.x E.b dX1_lead_77 (z_topi 0 (by decide +kernel) ?_)
  refine lv_if_eq (tgt := 107) E.x E.b dX1_lead_78 (by decide) (fun _ => ?_) (fun c => absurd (by decide +kernel) c)
  refine lv_iinc (v := 5) (lv' := [(6, .int 5), (5, .int 0), (0, .ref a0), (1, .int 0), (2, .int 0), (3, .int 1), (4, .int 0)]) E.x E.b dX1_lead_107 hl (k := 0) rfl (by decide +kernel) (by decide) rfl (fun ls hl => ?_)
  refine lv_goto (tgt := 60) E.x E.b dX1_lead_110 (by decide) ?_
  refine lv_iload E.x E.b dX1_lead_60 (lv_at hl 0 rfl) ?_
  refine lv_bipush (v := 6) E.x E.b dX1_lead_62 (by decide) ?_
  refine lv_icmp_ge (tgt := 113) E.x E.b dX1_lead_64 (by decide) (fun c => absurd c (by decide +kernel)) (fun _ => ?_)
  refine lv_iload E.x E.b dX1_lead_67 (lv_at hl 1 rfl) ?_
  refine lv_iload_n E.x E.b dX1_lead_69 rfl (lv_at hl 3 rfl) ?_
  refine lv_iconst (v := (-1)) E.x E.b dX1_lead_70 (by decide) ?_
  refine lv_ixor E.x E.b dX1_lead_71 (z_topi (-1) (by decide +kernel) ?_)
  refine lv_iand E.x E.b dX1_lead_72 (z_topi 0 (by decide +kernel) ?_)
  refine lv_iconst (v := 1) E.x E.b dX1_lead_73 (by decide) ?_
  refine lv_iload E.x E.b dX1_lead_74 (lv_at hl 0 rfl) ?_
  refine lv_ishl E.x E.b dX1_lead_76 (z_topi 32 (by decide +kernel) ?_)
  refine lv_iand E.x E.b dX1_lead_77 (z_topi 0 (by decide +kernel) ?_)
  refine lv_if_eq (tgt := 107) E.x E.b dX1_lead_78 (by decide) (fun _ => ?_) (fun c => absurd (by decide +kernel) c)
  refine lv_iinc (v := 6) (lv' := [(6, .int 6), (5, .int 0), (0, .ref a0), (1, .int 0), (2, .int 0), (3, .int 1), (4, .int 0)]) E.x E.b dX1_lead_107 hl (k := 0) rfl (by decide +kernel) (by decide) rfl (fun ls hl => ?_)
  refine lv_goto (tgt := 60) E.x E.b dX1_lead_110 (by decide) ?_
  refine lv_iload E.x E.b dX1_lead_60 (lv_at hl 0 rfl) ?_
  refine lv_bipush (v := 6) E.x E.b dX1_lead_62 (by decide) ?_
  refine lv_icmp_ge (tgt := 113) E.x E.b dX1_lead_64 (by decide) (fun _ => ?_) (fun c => absurd (by decide +kernel) c)
  refine W.widen (k := 0) (n := 0) (Nat.le_of_ble_eq_true rfl) (Nat.le_of_ble_eq_true rfl) ?_
  exact z_vret E hr hlocks B trivial (fun t ht => z_q B [0] (by decide) rfl ht) dX1_lead_113
set_option maxHeartbeats 4000000 in
set_option maxRecDepth 100000 in
theorem c_X1_find_73 (l : Launch) (G : zGT) (sz : Nat) (a0 a1 a2 a3 a4 a5 : Nat) : Met l yX1_find (.code yX1_find cX1_find 6 none :: zT) ({ frames := 1, cells := 0, slots := 0, locals := 90 }) (va_Pc [.ref a0, .int 1, .int 0] (zPc G [zo a0 1 [.ref a3, .ref a1, .ref a2], zo a1 0 [.ref a4, .int 0], zo a2 0 [.ref a5, .int 0], zi G a3 64 (fun _ => 0)] sz)) ((fun A => va_Qv (fun (_ : Unit) => True) (fun (_ : Unit) t => zQ G [zo a0 1 [.ref a3, .ref a1, .ref a2], zo a1 0 [.ref a4, .int 0], zo a2 0 [.ref a5, .int 0], zi G a3 64 (fun _ => 0)] A t) A) (va_A [zo a0 1 [.ref a3, .ref a1, .ref a2], zo a1 0 [.ref a4, .int 0], zo a2 0 [.ref a5, .int 0], zi G a3 64 (fun _ => 0)] sz)) 0 0 (va_A [zo a0 1 [.ref a3, .ref a1, .ref a2], zo a1 0 [.ref a4, .int 0], zo a2 0 [.ref a5, .int 0], zi G a3 64 (fun _ => 0)] sz) := by
  refine z_start (y := yX1_find) (bytes := cX1_find) (maxL := 6) (ret := none) (av := [.ref a0, .int 1, .int 0]) (QA := (fun A => va_Qv (fun (_ : Unit) => True) (fun (_ : Unit) t => zQ G [zo a0 1 [.ref a3, .ref a1, .ref a2], zo a1 0 [.ref a4, .int 0], zo a2 0 [.ref a5, .int 0], zi G a3 64 (fun _ => 0)] A t) A)) (by decide) ⟨Nat.le_of_ble_eq_true rfl, trivial⟩ ?_
  intro p e s m below meth c A ls E B hr hlocks hin hl
  have hl : lv_has ls 6 [(0, .ref a0), (1, .int 1), (2, .int 0)] := hl
  have B : zB G A s.heap [zo a0 1 [.ref a3, .ref a1, .ref a2], zo a1 0 [.ref a4, .int 0], zo a2 0 [.ref a5, .int 0], zi G a3 64 (fun _ => 0)] s.heap [] := B
  refine lv_aload_n E.x E.b dX1_find_0 rfl (lv_at hl 0 rfl) ?_
  refine z_get E B z_inX1 (ci := 1) rfl 1 (by decide) t_291 0 rfl rfl dX1_find_1 ?_
  refine lv_iconst (v := 0) E.x E.b dX1_find_4 (by decide) ?_
  refine z_put E B z_inX0 tyX0 tyX0_ok nmX0 (ci := 0) rfl 1 (by decide) rfl (ty := .int) (by decide +kernel) t_249 1 rfl (Nat.le_of_ble_eq_true rfl) rfl rfl dX1_find_5 (fun H locs B => ?_)
  have B : zB G A s.heap [zo a0 1 [.ref a3, .ref a1, .ref a2], zo a1 0 [.ref a4, .int 0], zo a2 0 [.ref a5, .int 0], zi G a3 64 (fun _ => 0)] _ _ := B
  refine lv_aload_n E.x E.b dX1_find_8 rfl (lv_at hl 0 rfl) ?_
  refine z_get E B z_inX1 (ci := 1) rfl 2 (by decide) t_293 0 rfl rfl dX1_find_9 ?_
  refine lv_iconst (v := 0) E.x E.b dX1_find_12 (by decide) ?_
  refine z_put E B z_inX0 tyX0 tyX0_ok nmX0 (ci := 0) rfl 1 (by decide) rfl (ty := .int) (by decide +kernel) t_249 2 rfl (Nat.le_of_ble_eq_true rfl) rfl rfl dX1_find_13 (fun H locs B => ?_)
  have B : zB G A s.heap [zo a0 1 [.ref a3, .ref a1, .ref a2], zo a1 0 [.ref a4, .int 0], zo a2 0 [.ref a5, .int 0], zi G a3 64 (fun _ => 0)] _ _ := B
  refine lv_iconst (v := 0) E.x E.b dX1_find_16 (by decide) ?_
  refine lv_istore_n (lv' := [(3, .int 0), (0, .ref a0), (1, .int 1), (2, .int 0)]) E.x E.b dX1_find_17 rfl hl (by decide) rfl (fun ls hl => ?_)
  refine lv_iload_n E.x E.b dX1_find_18 rfl (lv_at hl 0 rfl) ?_
  refine lv_iload_n E.x E.b dX1_find_19 rfl (lv_at hl 2 rfl) ?_
  refine lv_icmp_ge (tgt := 101) E.x E.b dX1_find_20 (by decide) (fun c => absurd c (by decide +kernel)) (fun _ => ?_)
  refine lv_iload_n E.x E.b dX1_find_23 rfl (lv_at hl 0 rfl) ?_
  refine lv_aload_n E.x E.b dX1_find_24 rfl (lv_at hl 1 rfl) ?_
  refine z_get E B z_inX1 (ci := 1) rfl 0 (by decide) t_289 0 rfl rfl dX1_find_25 ?_
  refine z_ilen E B 3 rfl (v := 64) (by decide +kernel) dX1_find_28 ?_
  refine lv_icmp_ge (tgt := 101) E.x E.b dX1_find_29 (by decide) (fun c => absurd c (by decide +kernel)) (fun _ => ?_)
  refine lv_aload_n E.x E.b dX1_find_32 rfl (lv_at hl 1 rfl) ?_
  refine z_get E B z_inX1 (ci := 1) rfl 0 (by decide) t_289 0 rfl rfl dX1_find_33 ?_
  refine lv_iload_n E.x E.b dX1_find_36 rfl (lv_at hl 0 rfl) ?_
  refine z_iald E B 3 rfl (show ¬ ((0 : Int32) < 0 ∨ 64 ≤ (0 : Int32).toNatClampNeg) by decide +kernel) dX1_find_37 (z_topi 0 rfl ?_)
  refine lv_istore (lv' := [(4, .int 0), (3, .int 0), (0, .ref a0), (1, .int 1), (2, .int 0)]) E.x E.b dX1_find_38 hl (by decide) rfl (fun ls hl => ?_)
  refine lv_iload_n E.x E.b dX1_find_40 rfl (lv_at hl 4 rfl) ?_
  refine lv_if_eq (tgt := 53) E.x E.b dX1_find_41 (by decide) (fun _ => ?_) (fun c => absurd (by decide +kernel) c)
  refine lv_iload E.x E.b dX1_find_53 (lv_at hl 0 rfl) ?_
  refine lv_istore (lv' := [(5, .int 0), (4, .int 0), (3, .int 0), (0, .ref a0), (1, .int 1), (2, .int 0)]) E.x E.b dX1_find_55 hl (by decide) rfl (fun ls hl => ?_)
  refine lv_iload_n E.x E.b dX1_find_57 rfl (lv_at hl 2 rfl) ?_
  refine lv_iload E.x E.b dX1_find_58 (lv_at hl 0 rfl) ?_
  refine lv_ixor E.x E.b dX1_find_60 (z_topi 0 (by decide +kernel) ?_)
  refine z_calli E B (wc := []) (wr := [zo a0 1 [.ref a3, .ref a1, .ref a2], zo a1 0 [.ref a4, .int 0], zo a2 0 [.ref a5, .int 0], zi G a3 64 (fun _ => 0)]) [] [0, 1, 2, 3] rfl rfl (by decide) (by decide) (z_runS E B (As := [.int 0]) (rest := []) [] rfl (by decide) ms_J6_bitCount_0f7a4 t_811 (c_J6_bitCount_0f7a4_71 l G _) rfl rfl ⟨Nat.le_of_ble_eq_true rfl, Nat.le_of_ble_eq_true rfl⟩ rfl hl.1 rfl (Nat.le_of_ble_eq_true rfl) dX1_find_61 ⟨(Nat.le_of_ble_eq_true rfl), (Nat.le_of_ble_eq_true rfl)⟩) (fun r t H locs hp hB J => ?_)
  have hq := hB
  have B := J _ hq
  have B : zB G A s.heap [zo a0 1 [.ref a3, .ref a1, .ref a2], zo a1 0 [.ref a4, .int 0], zo a2 0 [.ref a5, .int 0], zi G a3 64 (fun _ => 0)] _ _ := B
  have hp := hp.symm
  subst hp
  refine lv_iload_n E.x E.b dX1_find_64 rfl (lv_at hl 2 rfl) ?_
  refine lv_iload E.x E.b dX1_find_65 (lv_at hl 1 rfl) ?_
  refine lv_ixor E.x E.b dX1_find_67 (z_topi 0 (by decide +kernel) ?_)
  refine z_calli E B (wc := []) (wr := [zo a0 1 [.ref a3, .ref a1, .ref a2], zo a1 0 [.ref a4, .int 0], zo a2 0 [.ref a5, .int 0], zi G a3 64 (fun _ => 0)]) [] [0, 1, 2, 3] rfl rfl (by decide) (by decide) (z_runS E B (As := [.int 0]) (rest := [.int 0]) [] rfl (by decide) ms_J6_bitCount_0f7a4 t_811 (c_J6_bitCount_0f7a4_71 l G _) rfl rfl ⟨Nat.le_of_ble_eq_true rfl, Nat.le_of_ble_eq_true rfl⟩ rfl hl.1 rfl (Nat.le_of_ble_eq_true rfl) dX1_find_68 ⟨(Nat.le_of_ble_eq_true rfl), (Nat.le_of_ble_eq_true rfl)⟩) (fun r t H locs hp hB J => ?_)
  have hq := hB
  have B := J _ hq
  have B : zB G A s.heap [zo a0 1 [.ref a3, .ref a1, .ref a2], zo a1 0 [.ref a4, .int 0], zo a2 0 [.ref a5, .int 0], zi G a3 64 (fun _ => 0)] _ _ := B
  have hp := hp.symm
  subst hp
  refine lv_icmp_ge (tgt := 86) E.x E.b dX1_find_71 (by decide) (fun _ => ?_) (fun c => absurd (by decide +kernel) c)
  refine lv_aload_n E.x E.b dX1_find_86 rfl (lv_at hl 3 rfl) ?_
  refine lv_iload_n E.x E.b dX1_find_87 rfl (lv_at hl 2 rfl) ?_
  refine lv_iload E.x E.b dX1_find_88 (lv_at hl 1 rfl) ?_
  refine lv_iload_n E.x E.b dX1_find_90 rfl (lv_at hl 4 rfl) ?_
  refine lv_iconst (v := 0) E.x E.b dX1_find_91 (by decide) ?_
  refine z_callv E B (wc := [zo a0 1 [.ref a3, .ref a1, .ref a2]]) (wr := [zo a1 0 [.ref a4, .int 0], zo a2 0 [.ref a5, .int 0], zi G a3 64 (fun _ => 0)]) [0] [1, 2, 3] rfl rfl (by decide) (by decide) (z_runV E B (As := [.int 0, .int 0, .int 1, .int 0]) (rest := []) [0] rfl (by decide) mv_X1_lead t_812 0 (ci := 1) rfl rfl rfl (c_X1_lead_72 l G _ a0 a3 a1 a2) rfl rfl ⟨Nat.le_of_ble_eq_true rfl, Nat.le_of_ble_eq_true rfl⟩ rfl hl.1 rfl (Nat.le_of_ble_eq_true rfl) dX1_find_92 ⟨(Nat.le_of_ble_eq_true rfl), (Nat.le_of_ble_eq_true rfl)⟩) (fun  t H locs hp hB J => ?_)
  have hq := hB
  have B := J _ hq
  have B : zB G A s.heap [zo a1 0 [.ref a4, .int 0], zo a2 0 [.ref a5, .int 0], zi G a3 64 (fun _ => 0), zo a0 1 [.ref a3, .ref a1, .ref a2]] _ _ := B
  refine lv_iinc (v := 1) (lv' := [(3, .int 1), (5, .int 0), (4, .int 0), (0, .ref a0), (1, .int 1), (2, .int 0)]) E.x E.b dX1_find_95 hl (k := 2) rfl (by decide +kernel) (by decide) rfl (fun ls hl => ?_)
  refine lv_goto (tgt := 18) E.x E.b dX1_find_98 (by decide) ?_
  refine lv_iload_n E.x E.b dX1_find_18 rfl (lv_at hl 0 rfl) ?_
  refine lv_iload_n E.x E.b dX1_find_19 rfl (lv_at hl 4 rfl) ?_
  refine lv_icmp_ge (tgt := 101) E.x E.b dX1_find_20 (by decide) (fun _ => ?_) (fun c => absurd (by decide +kernel) c)
  refine lv_aload_n E.x E.b dX1_find_101 rfl (lv_at hl 3 rfl) ?_
  refine z_get E B z_inX1 (ci := 1) rfl 2 (by decide) t_293 3 rfl rfl dX1_find_102 ?_
  refine z_get E B z_inX0 (ci := 0) rfl 1 (by decide) t_249 1 rfl rfl dX1_find_105 ?_
  refine lv_iconst (v := 1) E.x E.b dX1_find_108 (by decide) ?_
  refine lv_isub E.x E.b dX1_find_109 (z_topi (-1) (by decide +kernel) ?_)
  refine lv_istore_n (lv' := [(3, .int (-1)), (5, .int 0), (4, .int 0), (0, .ref a0), (1, .int 1), (2, .int 0)]) E.x E.b dX1_find_110 rfl hl (by decide) rfl (fun ls hl => ?_)
  refine lv_iload_n E.x E.b dX1_find_111 rfl (lv_at hl 0 rfl) ?_
  refine lv_if_lt (tgt := 136) E.x E.b dX1_find_112 (by decide) (fun _ => ?_) (fun c => absurd (by decide +kernel) c)
  refine W.widen (k := 0) (n := 0) (Nat.le_of_ble_eq_true rfl) (Nat.le_of_ble_eq_true rfl) ?_
  exact z_vret E hr hlocks B trivial (fun t ht => z_q B [3, 0, 1, 2] (by decide) rfl ht) dX1_find_136
