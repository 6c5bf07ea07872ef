set_option maxHeartbeats 4000000 in
set_option maxRecDepth 100000 in
theorem c_X11_wiresUsed_139 (l : Launch) (G : zGT) (sz : Nat) (a0 a1 a2 a3 a4 a5 a6 a7 a8 a9 a10 a11 a12 a13 a14 : Nat) : Met l yX11_wiresUsed (.code yX11_wiresUsed cX11_wiresUsed 3 (some .int) :: zT) ({ frames := 0, cells := 0, slots := 0, locals := 64 }) (va_Pc [.ref a0] (zPc G [zo a0 9 [.ref a2, .ref a3, .ref a4, .ref a1, .ref a5, .ref a6, .ref a7, .ref a8, .ref a9, .ref a10, .ref a11, .ref a12, .ref a13, .null, .int 0, .int (-1)], zo a1 0 [.ref a14, .int 0]] sz)) ((fun A => va_Qi (fun (r : Int32) (_ : Unit) => r = 0) (fun (_ : Unit) t => zQ G [zo a0 9 [.ref a2, .ref a3, .ref a4, .ref a1, .ref a5, .ref a6, .ref a7, .ref a8, .ref a9, .ref a10, .ref a11, .ref a12, .ref a13, .null, .int 0, .int (-1)], zo a1 0 [.ref a14, .int 0]] A t) A) (va_A [zo a0 9 [.ref a2, .ref a3, .ref a4, .ref a1, .ref a5, .ref a6, .ref a7, .ref a8, .ref a9, .ref a10, .ref a11, .ref a12, .ref a13, .null, .int 0, .int (-1)], zo a1 0 [.ref a14, .int 0]] sz)) 0 0 (va_A [zo a0 9 [.ref a2, .ref a3, .ref a4, .ref a1, .ref a5, .ref a6, .ref a7, .ref a8, .ref a9, .ref a10, .ref a11, .ref a12, .ref a13, .null, .int 0, .int (-1)], zo a1 0 [.ref a14, .int 0]] sz) := by
  refine z_start (y := yX11_wiresUsed) (bytes := cX11_wiresUsed) (maxL := 3) (ret := (some .int)) (av := [.ref a0]) (QA := (fun A => va_Qi (fun (r : Int32) (_ : Unit) => r = 0) (fun (_ : Unit) t => zQ G [zo a0 9 [.ref a2, .ref a3, .ref a4, .ref a1, .ref a5, .ref a6, .ref a7, .ref a8, .ref a9, .ref a10, .ref a11, .ref a12, .ref a13, .null, .int 0, .int (-1)], zo a1 0 [.ref a14, .int 0]] A t) A)) (by decide) ⟨Nat.le_of_ble_eq_true rfl, trivial⟩ ?_
  intro p e s m below meth c A ls E B hr hlocks hin hl
  have hl : lv_has ls 3 [(0, .ref a0)] := hl
  have B : zB G A s.heap [zo a0 9 [.ref a2, .ref a3, .ref a4, .ref a1, .ref a5, .ref a6, .ref a7, .ref a8, .ref a9, .ref a10, .ref a11, .ref a12, .ref a13, .null, .int 0, .int (-1)], zo a1 0 [.ref a14, .int 0]] s.heap [] := B
  refine lv_iconst (v := 0) E.x E.b dX11_wiresUsed_0 (by decide) ?_
  refine lv_istore_n (lv' := [(1, .int 0), (0, .ref a0)]) E.x E.b dX11_wiresUsed_1 rfl hl (by decide) rfl (fun ls hl => ?_)
  refine lv_iconst (v := 0) E.x E.b dX11_wiresUsed_2 (by decide) ?_
  refine lv_istore_n (lv' := [(2, .int 0), (1, .int 0), (0, .ref a0)]) E.x E.b dX11_wiresUsed_3 rfl hl (by decide) rfl (fun ls hl => ?_)
  refine lv_iload_n E.x E.b dX11_wiresUsed_4 rfl (lv_at hl 0 rfl) ?_
  refine lv_aload_n E.x E.b dX11_wiresUsed_5 rfl (lv_at hl 2 rfl) ?_
  refine z_get E B z_inX11 (ci := 9) rfl 3 (by decide) t_372 0 rfl rfl dX11_wiresUsed_6 ?_
  refine z_get E B z_inX0 (ci := 0) rfl 1 (by decide) t_253 1 rfl rfl dX11_wiresUsed_9 ?_
  refine lv_icmp_ge (tgt := 35) E.x E.b dX11_wiresUsed_12 (by decide) (fun _ => ?_) (fun c => absurd (by decide +kernel) c)
  refine lv_iload_n E.x E.b dX11_wiresUsed_35 rfl (lv_at hl 1 rfl) ?_
  refine W.widen (k := 0) (n := 0) (Nat.le_of_ble_eq_true rfl) (Nat.le_of_ble_eq_true rfl) ?_
  exact z_iret E hr hlocks B (v := 0) rfl (fun t ht => z_q B [0, 1] (by decide) rfl ht) dX11_wiresUsed_36
set_option maxHeartbeats 4000000 in
set_option maxRecDepth 100000 in
theorem c_X11_slotsHeld_140 (l : Launch) (G : zGT) (sz : Nat) (a0 a1 a2 a3 a4 a5 a6 a7 a8 a9 a10 a11 a12 a13 : Nat) : Met l yX11_slotsHeld (.code yX11_slotsHeld cX11_slotsHeld 3 (some .int) :: zT) ({ frames := 0, cells := 0, slots := 0, locals := 64 }) (va_Pc [.ref a0] (zPc G [zo a0 9 [.ref a2, .ref a3, .ref a4, .ref a5, .ref a6, .ref a7, .ref a1, .ref a8, .ref a9, .ref a10, .ref a11, .ref a12, .ref a13, .null, .int 0, .int (-1)], zz G a1 3 (fun _ => 0)] sz)) ((fun A => va_Qi (fun (r : Int32) (_ : Unit) => r = 0) (fun (_ : Unit) t => zQ G [zo a0 9 [.ref a2, .ref a3, .ref a4, .ref a5, .ref a6, .ref a7, .ref a1, .ref a8, .ref a9, .ref a10, .ref a11, .ref a12, .ref a13, .null, .int 0, .int (-1)], zz G a1 3 (fun _ => 0)] A t) A) (va_A [zo a0 9 [.ref a2, .ref a3, .ref a4, .ref a5, .ref a6, .ref a7, .ref a1, .ref a8, .ref a9, .ref a10, .ref a11, .ref a12, .ref a13, .null, .int 0, .int (-1)], zz G a1 3 (fun _ => 0)] sz)) 0 0 (va_A [zo a0 9 [.ref a2, .ref a3, .ref a4, .ref a5, .ref a6, .ref a7, .ref a1, .ref a8, .ref a9, .ref a10, .ref a11, .ref a12, .ref a13, .null, .int 0, .int (-1)], zz G a1 3 (fun _ => 0)] sz) := by
  refine z_start (y := yX11_slotsHeld) (bytes := cX11_slotsHeld) (maxL := 3) (ret := (some .int)) (av := [.ref a0]) (QA := (fun A => va_Qi (fun (r : Int32) (_ : Unit) => r = 0) (fun (_ : Unit) t => zQ G [zo a0 9 [.ref a2, .ref a3, .ref a4, .ref a5, .ref a6, .ref a7, .ref a1, .ref a8, .ref a9, .ref a10, .ref a11, .ref a12, .ref a13, .null, .int 0, .int (-1)], zz G a1 3 (fun _ => 0)] A t) A)) (by decide) ⟨Nat.le_of_ble_eq_true rfl, trivial⟩ ?_
  intro p e s m below meth c A ls E B hr hlocks hin hl
  have hl : lv_has ls 3 [(0, .ref a0)] := hl
  have B : zB G A s.heap [zo a0 9 [.ref a2, .ref a3, .ref a4, .ref a5, .ref a6, .ref a7, .ref a1, .ref a8, .ref a9, .ref a10, .ref a11, .ref a12, .ref a13, .null, .int 0, .int (-1)], zz G a1 3 (fun _ => 0)] s.heap [] := B
  refine lv_iconst (v := 0) E.x E.b dX11_slotsHeld_0 (by decide) ?_
  refine lv_istore_n (lv' := [(1, .int 0), (0, .ref a0)]) E.x E.b dX11_slotsHeld_1 rfl hl (by decide) rfl (fun ls hl => ?_)
  refine lv_iconst (v := 0) E.x E.b dX11_slotsHeld_2 (by decide) ?_
  refine lv_istore_n (lv' := [(2, .int 0), (1, .int 0), (0, .ref a0)]) E.x E.b dX11_slotsHeld_3 rfl hl (by decide) rfl (fun ls hl => ?_)
  refine lv_iload_n E.x E.b dX11_slotsHeld_4 rfl (lv_at hl 0 rfl) ?_
  refine lv_iconst (v := 3) E.x E.b dX11_slotsHeld_5 (by decide) ?_
  refine lv_icmp_ge (tgt := 32) E.x E.b dX11_slotsHeld_6 (by decide) (fun c => absurd c (by decide +kernel)) (fun _ => ?_)
  refine lv_iload_n E.x E.b dX11_slotsHeld_9 rfl (lv_at hl 1 rfl) ?_
  refine lv_aload_n E.x E.b dX11_slotsHeld_10 rfl (lv_at hl 2 rfl) ?_
  refine z_get E B z_inX11 (ci := 9) rfl 6 (by decide) t_375 0 rfl rfl dX11_slotsHeld_11 ?_
  refine lv_iload_n E.x E.b dX11_slotsHeld_14 rfl (lv_at hl 0 rfl) ?_
  refine z_zald E B 1 rfl (show ¬ ((0 : Int32) < 0 ∨ 3 ≤ (0 : Int32).toNatClampNeg) by decide +kernel) dX11_slotsHeld_15 (z_topi 0 rfl ?_)
  refine lv_if_eq (tgt := 23) E.x E.b dX11_slotsHeld_16 (by decide) (fun _ => ?_) (fun c => absurd (by decide +kernel) c)
  refine lv_iconst (v := 0) E.x E.b dX11_slotsHeld_23 (by decide) ?_
  refine lv_iadd E.x E.b dX11_slotsHeld_24 (z_topi 0 (by decide +kernel) ?_)
  refine lv_istore_n (lv' := [(1, .int 0), (2, .int 0), (0, .ref a0)]) E.x E.b dX11_slotsHeld_25 rfl hl (by decide) rfl (fun ls hl => ?_)
  refine lv_iinc (v := 1) (lv' := [(2, .int 1), (1, .int 0), (0, .ref a0)]) E.x E.b dX11_slotsHeld_26 hl (k := 1) rfl (by decide +kernel) (by decide) rfl (fun ls hl => ?_)
  refine lv_goto (tgt := 4) E.x E.b dX11_slotsHeld_29 (by decide) ?_
  refine lv_iload_n E.x E.b dX11_slotsHeld_4 rfl (lv_at hl 0 rfl) ?_
  refine lv_iconst (v := 3) E.x E.b dX11_slotsHeld_5 (by decide) ?_
  refine lv_icmp_ge (tgt := 32) E.x E.b dX11_slotsHeld_6 (by decide) (fun c => absurd c (by decide +kernel)) (fun _ => ?_)
  refine lv_iload_n E.x E.b dX11_slotsHeld_9 rfl (lv_at hl 1 rfl) ?_
  refine lv_aload_n E.x E.b dX11_slotsHeld_10 rfl (lv_at hl 2 rfl) ?_
  refine z_get E B z_inX11 (ci := 9) rfl 6 (by decide) t_375 0 rfl rfl dX11_slotsHeld_11 ?_
  refine lv_iload_n E.x E.b dX11_slotsHeld_14 rfl (lv_at hl 0 rfl) ?_
  refine z_zald E B 1 rfl (show ¬ ((1 : Int32) < 0 ∨ 3 ≤ (1 : Int32).toNatClampNeg) by decide +kernel) dX11_slotsHeld_15 (z_topi 0 rfl ?_)
  refine lv_if_eq (tgt := 23) E.x E.b dX11_slotsHeld_16 (by decide) (fun _ => ?_) (fun c => absurd (by decide +kernel) c)
  refine lv_iconst (v := 0) E.x E.b dX11_slotsHeld_23 (by decide) ?_
  refine lv_iadd E.x E.b dX11_slotsHeld_24 (z_topi 0 (by decide +kernel) ?_)
  refine lv_istore_n (lv' := [(1, .int 0), (2, .int 1), (0, .ref a0)]) E.x E.b dX11_slotsHeld_25 rfl hl (by decide) rfl (fun ls hl => ?_)
  refine lv_iinc (v := 2) (lv' := [(2, .int 2), (1, .int 0), (0, .ref a0)]) E.x E.b dX11_slotsHeld_26 hl (k := 1) rfl (by decide +kernel) (by decide) rfl (fun ls hl => ?_)
  refine lv_goto (tgt := 4) E.x E.b dX11_slotsHeld_29 (by decide) ?_
  refine lv_iload_n E.x E.b dX11_slotsHeld_4 rfl (lv_at hl 0 rfl) ?_
  refine lv_iconst (v := 3) E.x E.b dX11_slotsHeld_5 (by decide) ?_
  refine lv_icmp_ge (tgt := 32) E.x E.b dX11_slotsHeld_6 (by decide) (fun c => absurd c (by decide +kernel)) (fun _ => ?_)
  refine lv_iload_n E.x E.b dX11_slotsHeld_9 rfl (lv_at hl 1 rfl) ?_
  refine lv_aload_n E.x E.b dX11_slotsHeld_10 rfl (lv_at hl 2 rfl) ?_
  refine z_get E B z_inX11 (ci := 9) rfl 6 (by decide) t_375 0 rfl rfl dX11_slotsHeld_11 ?_
  refine lv_iload_n E.x E.b dX11_slotsHeld_14 rfl (lv_at hl 0 rfl) ?_
  refine z_zald E B 1 rfl (show ¬ ((2 : Int32) < 0 ∨ 3 ≤ (2 : Int32).toNatClampNeg) by decide +kernel) dX11_slotsHeld_15 (z_topi 0 rfl ?_)
  refine lv_if_eq (tgt := 23) E.x E.b dX11_slotsHeld_16 (by decide) (fun _ => ?_) (fun c => absurd (by decide +kernel) c)
  refine lv_iconst (v := 0) E.x E.b dX11_slotsHeld_23 (by decide) ?_
  refine lv_iadd E.x E.b dX11_slotsHeld_24 (z_topi 0 (by decide +kernel) ?_)
  refine lv_istore_n (lv' := [(1, .int 0), (2, .int 2), (0, .ref a0)]) E.x E.b dX11_slotsHeld_25 rfl hl (by decide) rfl (fun ls hl => ?_)
  refine lv_iinc (v := 3) (lv' := [(2, .int 3), (1, .int 0), (0, .ref a0)]) E.x E.b dX11_slotsHeld_26 hl (k := 1) rfl (by decide +kernel) (by decide) rfl (fun ls hl => ?_)
  refine lv_goto (tgt := 4) E.x E.b dX11_slotsHeld_29 (by decide) ?_
  refine lv_iload_n E.x E.b dX11_slotsHeld_4 rfl (lv_at hl 0 rfl) ?_
  refine lv_iconst (v := 3) E.x E.b dX11_slotsHeld_5 (by decide) ?_
  refine lv_icmp_ge (tgt := 32) E.x E.b dX11_slotsHeld_6 (by decide) (fun _ => ?_) (fun c => absurd (by decide +kernel) c)
  refine lv_iload_n E.x E.b dX11_slotsHeld_32 rfl (lv_at hl 1 rfl) ?_
  refine W.widen (k := 0) (n := 0) (Nat.le_of_ble_eq_true rfl) (Nat.le_of_ble_eq_true rfl) ?_
  exact z_iret E hr hlocks B (v := 0) rfl (fun t ht => z_q B [0, 1] (by decide) rfl ht) dX11_slotsHeld_33
set_option maxHeartbeats 4000000 in
set_option maxRecDepth 100000 in
theorem c_X11_allControls_141 (l : Launch) (G : zGT) (sz : Nat) (a0 a1 a2 a3 a4 a5 a6 a7 a8 a9 a10 a11 a12 a13 a14 : Nat) : Met l yX11_allControls (.code yX11_allControls cX11_allControls 3 (some .int) :: zT) ({ frames := 0, cells := 0, slots := 0, locals := 64 }) (va_Pc [.ref a0] (zPc G [zo a0 9 [.ref a2, .ref a3, .ref a4, .ref a1, .ref a5, .ref a6, .ref a7, .ref a8, .ref a9, .ref a10, .ref a11, .ref a12, .ref a13, .null, .int 0, .int (-1)], zo a1 0 [.ref a14, .int 0]] sz)) ((fun A => va_Qi (fun (r : Int32) (_ : Unit) => r = 0) (fun (_ : Unit) t => zQ G [zo a0 9 [.ref a2, .ref a3, .ref a4, .ref a1, .ref a5, .ref a6, .ref a7, .ref a8, .ref a9, .ref a10, .ref a11, .ref a12, .ref a13, .null, .int 0, .int (-1)], zo a1 0 [.ref a14, .int 0]] A t) A) (va_A [zo a0 9 [.ref a2, .ref a3, .ref a4, .ref a1, .ref a5, .ref a6, .ref a7, .ref a8, .ref a9, .ref a10, .ref a11, .ref a12, .ref a13, .null, .int 0, .int (-1)], zo a1 0 [.ref a14, .int 0]] sz)) 0 0 (va_A [zo a0 9 [.ref a2, .ref a3, .ref a4, .ref a1, .ref a5, .ref a6, .ref a7, .ref a8, .ref a9, .ref a10, .ref a11, .ref a12, .ref a13, .null, .int 0, .int (-1)], zo a1 0 [.ref a14, .int 0]] sz) := by
  refine z_start (y := yX11_allControls) (bytes := cX11_allControls) (maxL := 3) (ret := (some .int)) (av := [.ref a0]) (QA := (fun A => va_Qi (fun (r : Int32) (_ : Unit) => r = 0) (fun (_ : Unit) t => zQ G [zo a0 9 [.ref a2, .ref a3, .ref a4, .ref a1, .ref a5, .ref a6, .ref a7, .ref a8, .ref a9, .ref a10, .ref a11, .ref a12, .ref a13, .null, .int 0, .int (-1)], zo a1 0 [.ref a14, .int 0]] A t) A)) (by decide) ⟨Nat.le_of_ble_eq_true rfl, trivial⟩ ?_
  intro p e s m below meth c A ls E B hr hlocks hin hl
  have hl : lv_has ls 3 [(0, .ref a0)] := hl
  have B : zB G A s.heap [zo a0 9 [.ref a2, .ref a3, .ref a4, .ref a1, .ref a5, .ref a6, .ref a7, .ref a8, .ref a9, .ref a10, .ref a11, .ref a12, .ref a13, .null, .int 0, .int (-1)], zo a1 0 [.ref a14, .int 0]] s.heap [] := B
  refine lv_iconst (v := 0) E.x E.b dX11_allControls_0 (by decide) ?_
  refine lv_istore_n (lv' := [(1, .int 0), (0, .ref a0)]) E.x E.b dX11_allControls_1 rfl hl (by decide) rfl (fun ls hl => ?_)
  refine lv_iconst (v := 0) E.x E.b dX11_allControls_2 (by decide) ?_
  refine lv_istore_n (lv' := [(2, .int 0), (1, .int 0), (0, .ref a0)]) E.x E.b dX11_allControls_3 rfl hl (by decide) rfl (fun ls hl => ?_)
  refine lv_iload_n E.x E.b dX11_allControls_4 rfl (lv_at hl 0 rfl) ?_
  refine lv_aload_n E.x E.b dX11_allControls_5 rfl (lv_at hl 2 rfl) ?_
  refine z_get E B z_inX11 (ci := 9) rfl 3 (by decide) t_372 0 rfl rfl dX11_allControls_6 ?_
  refine z_get E B z_inX0 (ci := 0) rfl 1 (by decide) t_253 1 rfl rfl dX11_allControls_9 ?_
  refine lv_icmp_ge (tgt := 38) E.x E.b dX11_allControls_12 (by decide) (fun _ => ?_) (fun c => absurd (by decide +kernel) c)
  refine lv_iload_n E.x E.b dX11_allControls_38 rfl (lv_at hl 1 rfl) ?_
  refine W.widen (k := 0) (n := 0) (Nat.le_of_ble_eq_true rfl) (Nat.le_of_ble_eq_true rfl) ?_
  exact z_iret E hr hlocks B (v := 0) rfl (fun t ht => z_q B [0, 1] (by decide) rfl ht) dX11_allControls_39
set_option maxHeartbeats 4000000 in
set_option maxRecDepth 100000 in
theorem c_X9_seeingRows_142 (l : Launch) (G : zGT) (sz : Nat) (a0 a1 a2 : Nat) : Met l yX9_seeingRows (.code yX9_seeingRows cX9_seeingRows 3 (some .int) :: zT) ({ frames := 0, cells := 0, slots := 0, locals := 64 }) (va_Pc [.ref a0] (zPc G [zo a0 7 [.ref a1, .ref a2, .int 1, .int 0], zi G a1 16 (fun _ => 0)] sz)) ((fun A => va_Qi (fun (r : Int32) (_ : Unit) => r = 0) (fun (_ : Unit) t => zQ G [zo a0 7 [.ref a1, .ref a2, .int 1, .int 0], zi G a1 16 (fun _ => 0)] A t) A) (va_A [zo a0 7 [.ref a1, .ref a2, .int 1, .int 0], zi G a1 16 (fun _ => 0)] sz)) 0 0 (va_A [zo a0 7 [.ref a1, .ref a2, .int 1, .int 0], zi G a1 16 (fun _ => 0)] sz) := by
  refine z_start (y := yX9_seeingRows) (bytes := cX9_seeingRows) (maxL := 3) (ret := (some .int)) (av := [.ref a0]) (QA := (fun A => va_Qi (fun (r : Int32) (_ : Unit) => r = 0) (fun (_ : Unit) t => zQ G [zo a0 7 [.ref a1, .ref a2, .int 1, .int 0], zi G a1 16 (fun _ => 0)] A t) A)) (by decide) ⟨Nat.le_of_ble_eq_true rfl, trivial⟩ ?_
  intro p e s m below meth c A ls E B hr hlocks hin hl
  have hl : lv_has ls 3 [(0, .ref a0)] := hl
  have B : zB G A s.heap [zo a0 7 [.ref a1, .ref a2, .int 1, .int 0], zi G a1 16 (fun _ => 0)] s.heap [] := B
  refine lv_iconst (v := 0) E.x E.b dX9_seeingRows_0 (by decide) ?_
  refine lv_istore_n (lv' := [(1, .int 0), (0, .ref a0)]) E.x E.b dX9_seeingRows_1 rfl hl (by decide) rfl (fun ls hl => ?_)
  refine lv_iconst (v := 0) E.x E.b dX9_seeingRows_2 (by decide) ?_
  refine lv_istore_n (lv' := [(2, .int 0), (1, .int 0), (0, .ref a0)]) E.x E.b dX9_seeingRows_3 rfl hl (by decide) rfl (fun ls hl => ?_)
  refine lv_iload_n E.x E.b dX9_seeingRows_4 rfl (lv_at hl 0 rfl) ?_
  refine lv_aload_n E.x E.b dX9_seeingRows_5 rfl (lv_at hl 2 rfl) ?_
  refine z_get E B z_inX9 (ci := 7) rfl 2 (by decide) t_310 0 rfl rfl dX9_seeingRows_6 ?_
  refine lv_icmp_ge (tgt := 43) E.x E.b dX9_seeingRows_9 (by decide) (fun c => absurd c (by decide +kernel)) (fun _ => ?_)
  refine lv_iload_n E.x E.b dX9_seeingRows_12 rfl (lv_at hl 0 rfl) ?_
  refine lv_bipush (v := 16) E.x E.b dX9_seeingRows_13 (by decide) ?_
  refine lv_icmp_ge (tgt := 43) E.x E.b dX9_seeingRows_15 (by decide) (fun c => absurd c (by decide +kernel)) (fun _ => ?_)
  refine lv_iload_n E.x E.b dX9_seeingRows_18 rfl (lv_at hl 1 rfl) ?_
  refine lv_aload_n E.x E.b dX9_seeingRows_19 rfl (lv_at hl 2 rfl) ?_
  refine z_get E B z_inX9 (ci := 7) rfl 0 (by decide) t_307 0 rfl rfl dX9_seeingRows_20 ?_
  refine lv_iload_n E.x E.b dX9_seeingRows_23 rfl (lv_at hl 0 rfl) ?_
  refine z_iald E B 1 rfl (show ¬ ((0 : Int32) < 0 ∨ 16 ≤ (0 : Int32).toNatClampNeg) by decide +kernel) dX9_seeingRows_24 (z_topi 0 rfl ?_)
  refine lv_if_eq (tgt := 34) E.x E.b dX9_seeingRows_25 (by decide) (fun _ => ?_) (fun c => absurd (by decide +kernel) c)
  refine lv_iconst (v := 0) E.x E.b dX9_seeingRows_34 (by decide) ?_
  refine lv_ior E.x E.b dX9_seeingRows_35 (z_topi 0 (by decide +kernel) ?_)
  refine lv_istore_n (lv' := [(1, .int 0), (2, .int 0), (0, .ref a0)]) E.x E.b dX9_seeingRows_36 rfl hl (by decide) rfl (fun ls hl => ?_)
  refine lv_iinc (v := 1) (lv' := [(2, .int 1), (1, .int 0), (0, .ref a0)]) E.x E.b dX9_seeingRows_37 hl (k := 1) rfl (by decide +kernel) (by decide) rfl (fun ls hl => ?_)
  refine lv_goto (tgt := 4) E.x E.b dX9_seeingRows_40 (by decide) ?_
  refine lv_iload_n E.x E.b dX9_seeingRows_4 rfl (lv_at hl 0 rfl) ?_
  refine lv_aload_n E.x E.b dX9_seeingRows_5 rfl (lv_at hl 2 rfl) ?_
  refine z_get E B z_inX9 (ci := 7) rfl 2 (by decide) t_310 0 rfl rfl dX9_seeingRows_6 ?_
  refine lv_icmp_ge (tgt := 43) E.x E.b dX9_seeingRows_9 (by decide) (fun _ => ?_) (fun c => absurd (by decide +kernel) c)
  refine lv_iload_n E.x E.b dX9_seeingRows_43 rfl (lv_at hl 1 rfl) ?_
  refine W.widen (k := 0) (n := 0) (Nat.le_of_ble_eq_true rfl) (Nat.le_of_ble_eq_true rfl) ?_
  exact z_iret E hr hlocks B (v := 0) rfl (fun t ht => z_q B [0, 1] (by decide) rfl ht) dX9_seeingRows_44
set_option maxHeartbeats 4000000 in
set_option maxRecDepth 100000 in
theorem c_X11_degree_143 (l : Launch) (G : zGT) (sz : Nat) (a0 a1 a2 a3 a4 a5 a6 a7 a8 a9 a10 a11 a12 a13 : Nat) : Met l yX11_degree (.code yX11_degree cX11_degree 5 (some .int) :: zT) ({ frames := 0, cells := 0, slots := 0, locals := 64 }) (va_Pc [.ref a0] (zPc G [zo a0 9 [.ref a1, .ref a2, .ref a3, .ref a4, .ref a5, .ref a6, .ref a7, .ref a8, .ref a9, .ref a10, .ref a11, .ref a12, .ref a13, .null, .int 0, .int (-1)]] sz)) ((fun A => va_Qi (fun (r : Int32) (_ : Unit) => r = 0) (fun (_ : Unit) t => zQ G [zo a0 9 [.ref a1, .ref a2, .ref a3, .ref a4, .ref a5, .ref a6, .ref a7, .ref a8, .ref a9, .ref a10, .ref a11, .ref a12, .ref a13, .null, .int 0, .int (-1)]] A t) A) (va_A [zo a0 9 [.ref a1, .ref a2, .ref a3, .ref a4, .ref a5, .ref a6, .ref a7, .ref a8, .ref a9, .ref a10, .ref a11, .ref a12, .ref a13, .null, .int 0, .int (-1)]] sz)) 0 0 (va_A [zo a0 9 [.ref a1, .ref a2, .ref a3, .ref a4, .ref a5, .ref a6, .ref a7, .ref a8, .ref a9, .ref a10, .ref a11, .ref a12, .ref a13, .null, .int 0, .int (-1)]] sz) := by
  refine z_start (y := yX11_degree) (bytes := cX11_degree) (maxL := 5) (ret := (some .int)) (av := [.ref a0]) (QA := (fun A => va_Qi (fun (r : Int32) (_ : Unit) => r = 0) (fun (_ : Unit) t => zQ G [zo a0 9 [.ref a1, .ref a2, .ref a3, .ref a4, .ref a5, .ref a6, .ref a7, .ref a8, .ref a9, .ref a10, .ref a11, .ref a12, .ref a13, .null, .int 0, .int (-1)]] A t) A)) (by decide) ⟨Nat.le_of_ble_eq_true rfl, trivial⟩ ?_
  intro p e s m below meth c A ls E B hr hlocks hin hl
  have hl : lv_has ls 5 [(0, .ref a0)] := hl
  have B : zB G A s.heap [zo a0 9 [.ref a1, .ref a2, .ref a3, .ref a4, .ref a5, .ref a6, .ref a7, .ref a8, .ref a9, .ref a10, .ref a11, .ref a12, .ref a13, .null, .int 0, .int (-1)]] s.heap [] := B
  refine lv_iconst (v := 0) E.x E.b dX11_degree_0 (by decide) ?_
  refine lv_istore_n (lv' := [(1, .int 0), (0, .ref a0)]) E.x E.b dX11_degree_1 rfl hl (by decide) rfl (fun ls hl => ?_)
  refine lv_iconst (v := 0) E.x E.b dX11_degree_2 (by decide) ?_
  refine lv_istore_n (lv' := [(2, .int 0), (1, .int 0), (0, .ref a0)]) E.x E.b dX11_degree_3 rfl hl (by decide) rfl (fun ls hl => ?_)
  refine lv_iload_n E.x E.b dX11_degree_4 rfl (lv_at hl 0 rfl) ?_
  refine lv_aload_n E.x E.b dX11_degree_5 rfl (lv_at hl 2 rfl) ?_
  refine z_get E B z_inX11 (ci := 9) rfl 14 (by decide) t_383 0 rfl rfl dX11_degree_6 ?_
  refine lv_icmp_ge (tgt := 61) E.x E.b dX11_degree_9 (by decide) (fun _ => ?_) (fun c => absurd (by decide +kernel) c)
  refine lv_iload_n E.x E.b dX11_degree_61 rfl (lv_at hl 1 rfl) ?_
  refine W.widen (k := 0) (n := 0) (Nat.le_of_ble_eq_true rfl) (Nat.le_of_ble_eq_true rfl) ?_
  exact z_iret E hr hlocks B (v := 0) rfl (fun t ht => z_q B [0] (by decide) rfl ht) dX11_degree_62
set_option maxHeartbeats 4000000 in
set_option maxRecDepth 100000 in
theorem c_X11_unlikeGates_144 (l : Launch) (G : zGT) (sz : Nat) (a0 a1 a2 a3 a4 a5 a6 a7 a8 a9 a10 a11 a12 a13 a14 : Nat) : Met l yX11_unlikeGates (.code yX11_unlikeGates cX11_unlikeGates 3 (some .int) :: zT) ({ frames := 0, cells := 0, slots := 0, locals := 64 }) (va_Pc [.ref a0] (zPc G [zo a0 9 [.ref a2, .ref a3, .ref a4, .ref a1, .ref a5, .ref a6, .ref a7, .ref a8, .ref a9, .ref a10, .ref a11, .ref a12, .ref a13, .null, .int 0, .int (-1)], zo a1 0 [.ref a14, .int 0]] sz)) ((fun A => va_Qi (fun (r : Int32) (_ : Unit) => r = 0) (fun (_ : Unit) t => zQ G [zo a0 9 [.ref a2, .ref a3, .ref a4, .ref a1, .ref a5, .ref a6, .ref a7, .ref a8, .ref a9, .ref a10, .ref a11, .ref a12, .ref a13, .null, .int 0, .int (-1)], zo a1 0 [.ref a14, .int 0]] A t) A) (va_A [zo a0 9 [.ref a2, .ref a3, .ref a4, .ref a1, .ref a5, .ref a6, .ref a7, .ref a8, .ref a9, .ref a10, .ref a11, .ref a12, .ref a13, .null, .int 0, .int (-1)], zo a1 0 [.ref a14, .int 0]] sz)) 0 0 (va_A [zo a0 9 [.ref a2, .ref a3, .ref a4, .ref a1, .ref a5, .ref a6, .ref a7, .ref a8, .ref a9, .ref a10, .ref a11, .ref a12, .ref a13, .null, .int 0, .int (-1)], zo a1 0 [.ref a14, .int 0]] sz) := by
  refine z_start (y := yX11_unlikeGates) (bytes := cX11_unlikeGates) (maxL := 3) (ret := (some .int)) (av := [.ref a0]) (QA := (fun A => va_Qi (fun (r : Int32) (_ : Unit) => r = 0) (fun (_ : Unit) t => zQ G [zo a0 9 [.ref a2, .ref a3, .ref a4, .ref a1, .ref a5, .ref a6, .ref a7, .ref a8, .ref a9, .ref a10, .ref a11, .ref a12, .ref a13, .null, .int 0, .int (-1)], zo a1 0 [.ref a14, .int 0]] A t) A)) (by decide) ⟨Nat.le_of_ble_eq_true rfl, trivial⟩ ?_
  intro p e s m below meth c A ls E B hr hlocks hin hl
  have hl : lv_has ls 3 [(0, .ref a0)] := hl
  have B : zB G A s.heap [zo a0 9 [.ref a2, .ref a3, .ref a4, .ref a1, .ref a5, .ref a6, .ref a7, .ref a8, .ref a9, .ref a10, .ref a11, .ref a12, .ref a13, .null, .int 0, .int (-1)], zo a1 0 [.ref a14, .int 0]] s.heap [] := B
  refine lv_iconst (v := 0) E.x E.b dX11_unlikeGates_0 (by decide) ?_
  refine lv_istore_n (lv' := [(1, .int 0), (0, .ref a0)]) E.x E.b dX11_unlikeGates_1 rfl hl (by decide) rfl (fun ls hl => ?_)
  refine lv_iconst (v := 0) E.x E.b dX11_unlikeGates_2 (by decide) ?_
  refine lv_istore_n (lv' := [(2, .int 0), (1, .int 0), (0, .ref a0)]) E.x E.b dX11_unlikeGates_3 rfl hl (by decide) rfl (fun ls hl => ?_)
  refine lv_iload_n E.x E.b dX11_unlikeGates_4 rfl (lv_at hl 0 rfl) ?_
  refine lv_aload_n E.x E.b dX11_unlikeGates_5 rfl (lv_at hl 2 rfl) ?_
  refine z_get E B z_inX11 (ci := 9) rfl 3 (by decide) t_372 0 rfl rfl dX11_unlikeGates_6 ?_
  refine z_get E B z_inX0 (ci := 0) rfl 1 (by decide) t_253 1 rfl rfl dX11_unlikeGates_9 ?_
  refine lv_icmp_ge (tgt := 48) E.x E.b dX11_unlikeGates_12 (by decide) (fun _ => ?_) (fun c => absurd (by decide +kernel) c)
  refine lv_iload_n E.x E.b dX11_unlikeGates_48 rfl (lv_at hl 1 rfl) ?_
  refine W.widen (k := 0) (n := 0) (Nat.le_of_ble_eq_true rfl) (Nat.le_of_ble_eq_true rfl) ?_
  exact z_iret E hr hlocks B (v := 0) rfl (fun t ht => z_q B [0, 1] (by decide) rfl ht) dX11_unlikeGates_49
set_option maxHeartbeats 4000000 in
set_option maxRecDepth 100000 in
theorem c_X11_count_145 (l : Launch) (G : zGT) (sz : Nat) (a0 a1 a2 a3 a4 a5 a6 a7 a8 a9 a10 a11 a12 a13 a14 a15 a16 a17 a18 a19 a20 a21 : Nat) (p0 : Int32) : Met l yX11_count (.code yX11_count cX11_count 2 (some .int) :: zT) ({ frames := 2, cells := 0, slots := 0, locals := 115 }) (va_Pc [.ref a0, .int p0] (zPc G [zo a0 9 [.ref a2, .ref a8, .ref a9, .ref a1, .ref a10, .ref a11, .ref a4, .ref a3, .ref a12, .ref a6, .ref a13, .ref a5, .ref a14, .null, .int 0, .int (-1)], zo a1 0 [.ref a15, .int 0], zo a2 6 [.ref a16, .ref a17, .ref a18, .ref a19, .int 0, .int 0, .int 0, .int 0, .int 0, .long 0], zo a3 3 [.ref a20, .int 0, .int 0], zz G a4 3 (fun _ => 0), zi G a5 4 zPr, zo a6 7 [.ref a7, .ref a21, .int 0, .int 0], zi G a7 16 (fun _ => 0)] sz)) ((fun A => va_Qi (fun (r : Int32) (_ : Unit) => (p0.toInt = 0 ∧ r = 0) ∨ (p0.toInt = 1 ∧ r = 0) ∨ (p0.toInt = 2 ∧ r = 0) ∨ (p0.toInt = 3 ∧ r = 0) ∨ (p0.toInt = 4 ∧ r = 0) ∨ (p0.toInt = 5 ∧ r = 0) ∨ (p0.toInt = 6 ∧ r = 0) ∨ (p0.toInt = 7 ∧ r = 0) ∨ (p0.toInt = 8 ∧ r = 0) ∨ (p0.toInt = 9 ∧ r = 1) ∨ (p0.toInt = 10 ∧ r = 1) ∨ (p0.toInt = 11 ∧ r = 5) ∨ (p0.toInt = 12 ∧ r = 13) ∨ (p0.toInt = 13 ∧ r = 0) ∨ (p0.toInt = 14 ∧ r = 0) ∨ (p0.toInt = 15 ∧ r = 0) ∨ (p0.toInt = 16 ∧ r = 0) ∨ (¬ p0.toInt = 0 ∧ ¬ p0.toInt = 1 ∧ ¬ p0.toInt = 2 ∧ ¬ p0.toInt = 3 ∧ ¬ p0.toInt = 4 ∧ ¬ p0.toInt = 5 ∧ ¬ p0.toInt = 6 ∧ ¬ p0.toInt = 7 ∧ ¬ p0.toInt = 8 ∧ ¬ p0.toInt = 9 ∧ ¬ p0.toInt = 10 ∧ ¬ p0.toInt = 11 ∧ ¬ p0.toInt = 12 ∧ ¬ p0.toInt = 13 ∧ ¬ p0.toInt = 14 ∧ ¬ p0.toInt = 15 ∧ ¬ p0.toInt = 16 ∧ r = (-1))) (fun (_ : Unit) t => zQ G [] A t) A) (va_A [zo a0 9 [.ref a2, .ref a8, .ref a9, .ref a1, .ref a10, .ref a11, .ref a4, .ref a3, .ref a12, .ref a6, .ref a13, .ref a5, .ref a14, .null, .int 0, .int (-1)], zo a1 0 [.ref a15, .int 0], zo a2 6 [.ref a16, .ref a17, .ref a18, .ref a19, .int 0, .int 0, .int 0, .int 0, .int 0, .long 0], zo a3 3 [.ref a20, .int 0, .int 0], zz G a4 3 (fun _ => 0), zi G a5 4 zPr, zo a6 7 [.ref a7, .ref a21, .int 0, .int 0], zi G a7 16 (fun _ => 0)] sz)) 0 0 (va_A [zo a0 9 [.ref a2, .ref a8, .ref a9, .ref a1, .ref a10, .ref a11, .ref a4, .ref a3, .ref a12, .ref a6, .ref a13, .ref a5, .ref a14, .null, .int 0, .int (-1)], zo a1 0 [.ref a15, .int 0], zo a2 6 [.ref a16, .ref a17, .ref a18, .ref a19, .int 0, .int 0, .int 0, .int 0, .int 0, .long 0], zo a3 3 [.ref a20, .int 0, .int 0], zz G a4 3 (fun _ => 0), zi G a5 4 zPr, zo a6 7 [.ref a7, .ref a21, .int 0, .int 0], zi G a7 16 (fun _ => 0)] sz) := by
  refine z_start (y := yX11_count) (bytes := cX11_count) (maxL := 2) (ret := (some .int)) (av := [.ref a0, .int p0]) (QA := (fun A => va_Qi (fun (r : Int32) (_ : Unit) => (p0.toInt = 0 ∧ r = 0) ∨ (p0.toInt = 1 ∧ r = 0) ∨ (p0.toInt = 2 ∧ r = 0) ∨ (p0.toInt = 3 ∧ r = 0) ∨ (p0.toInt = 4 ∧ r = 0) ∨ (p0.toInt = 5 ∧ r = 0) ∨ (p0.toInt = 6 ∧ r = 0) ∨ (p0.toInt = 7 ∧ r = 0) ∨ (p0.toInt = 8 ∧ r = 0) ∨ (p0.toInt = 9 ∧ r = 1) ∨ (p0.toInt = 10 ∧ r = 1) ∨ (p0.toInt = 11 ∧ r = 5) ∨ (p0.toInt = 12 ∧ r = 13) ∨ (p0.toInt = 13 ∧ r = 0) ∨ (p0.toInt = 14 ∧ r = 0) ∨ (p0.toInt = 15 ∧ r = 0) ∨ (p0.toInt = 16 ∧ r = 0) ∨ (¬ p0.toInt = 0 ∧ ¬ p0.toInt = 1 ∧ ¬ p0.toInt = 2 ∧ ¬ p0.toInt = 3 ∧ ¬ p0.toInt = 4 ∧ ¬ p0.toInt = 5 ∧ ¬ p0.toInt = 6 ∧ ¬ p0.toInt = 7 ∧ ¬ p0.toInt = 8 ∧ ¬ p0.toInt = 9 ∧ ¬ p0.toInt = 10 ∧ ¬ p0.toInt = 11 ∧ ¬ p0.toInt = 12 ∧ ¬ p0.toInt = 13 ∧ ¬ p0.toInt = 14 ∧ ¬ p0.toInt = 15 ∧ ¬ p0.toInt = 16 ∧ r = (-1))) (fun (_ : Unit) t => zQ G [] A t) A)) (by decide) ⟨Nat.le_of_ble_eq_true rfl, trivial⟩ ?_
  intro p e s m below meth c A ls E B hr hlocks hin hl
  have hl : lv_has ls 2 [(0, .ref a0), (1, .int p0)] := hl
  have B : zB G A s.heap [zo a0 9 [.ref a2, .ref a8, .ref a9, .ref a1, .ref a10, .ref a11, .ref a4, .ref a3, .ref a12, .ref a6, .ref a13, .ref a5, .ref a14, .null, .int 0, .int (-1)], zo a1 0 [.ref a15, .int 0], zo a2 6 [.ref a16, .ref a17, .ref a18, .ref a19, .int 0, .int 0, .int 0, .int 0, .int 0, .long 0], zo a3 3 [.ref a20, .int 0, .int 0], zz G a4 3 (fun _ => 0), zi G a5 4 zPr, zo a6 7 [.ref a7, .ref a21, .int 0, .int 0], zi G a7 16 (fun _ => 0)] s.heap [] := B
  refine lv_iload_n E.x E.b dX11_count_0 rfl (lv_at hl 1 rfl) ?_
  by_cases e_1 : p0 = 0
  · subst e_1
    refine lv_tableIn (off := 83) (tgt := 84) E.x E.b dX11_count_1 (by decide) (by decide) (by decide +kernel) (by decide) ?_
    refine lv_aload_n E.x E.b dX11_count_84 rfl (lv_at hl 0 rfl) ?_
    refine z_get E B z_inX11 (ci := 9) rfl 14 (by decide) t_383 0 rfl rfl dX11_count_85 ?_
    refine W.widen (k := 0) (n := 0) (Nat.le_of_ble_eq_true rfl) (Nat.le_of_ble_eq_true rfl) ?_
    exact z_iret E hr hlocks B (v := 0) (Or.inl ⟨(by first | decide | omega), rfl⟩) (fun t ht => z_q B [] (by decide) rfl ht) dX11_count_88
  · have e_1m : ¬ p0.toInt = 0 := zi_ne e_1
    by_cases e_2 : p0 = 1
    · subst e_2
      refine lv_tableIn (off := 88) (tgt := 89) E.x E.b dX11_count_1 (by decide) (by decide) (by decide +kernel) (by decide) ?_
      refine lv_aload_n E.x E.b dX11_count_89 rfl (lv_at hl 0 rfl) ?_
      refine z_get E B z_inX11 (ci := 9) rfl 3 (by decide) t_372 0 rfl rfl dX11_count_90 ?_
      refine z_get E B z_inX0 (ci := 0) rfl 1 (by decide) t_253 1 rfl rfl dX11_count_93 ?_
      refine W.widen (k := 0) (n := 0) (Nat.le_of_ble_eq_true rfl) (Nat.le_of_ble_eq_true rfl) ?_
      exact z_iret E hr hlocks B (v := 0) (Or.inr (Or.inl ⟨(by first | decide | omega), rfl⟩)) (fun t ht => z_q B [] (by decide) rfl ht) dX11_count_96
    · have e_2m : ¬ p0.toInt = 1 := zi_ne e_2
      by_cases e_3 : p0 = 2
      · subst e_3
        refine lv_tableIn (off := 96) (tgt := 97) E.x E.b dX11_count_1 (by decide) (by decide) (by decide +kernel) (by decide) ?_
        refine lv_aload_n E.x E.b dX11_count_97 rfl (lv_at hl 0 rfl) ?_
        refine z_calli E B (wc := [zo a0 9 [.ref a2, .ref a8, .ref a9, .ref a1, .ref a10, .ref a11, .ref a4, .ref a3, .ref a12, .ref a6, .ref a13, .ref a5, .ref a14, .null, .int 0, .int (-1)], zo a1 0 [.ref a15, .int 0]]) (wr := [zo a2 6 [.ref a16, .ref a17, .ref a18, .ref a19, .int 0, .int 0, .int 0, .int 0, .int 0, .long 0], zo a3 3 [.ref a20, .int 0, .int 0], zz G a4 3 (fun _ => 0), zi G a5 4 zPr, zo a6 7 [.ref a7, .ref a21, .int 0, .int 0], zi G a7 16 (fun _ => 0)]) [0, 1] [2, 3, 4, 5, 6, 7] rfl rfl (by decide) (by decide) (z_runV E B (As := []) (rest := []) [0, 1] rfl (by decide) mv_X11_cost t_1143 0 (ci := 9) rfl rfl rfl (c_X11_cost_136 l G _ a0 a1 a2 a8 a9 a10 a11 a4 a3 a12 a6 a13 a5 a14 a15) rfl rfl ⟨Nat.le_of_ble_eq_true rfl, Nat.le_of_ble_eq_true rfl⟩ rfl hl.1 rfl (Nat.le_of_ble_eq_true rfl) dX11_count_98 ⟨(Nat.le_of_ble_eq_true rfl), (Nat.le_of_ble_eq_true rfl)⟩) (fun r t H locs hp hB J => ?_)
        have hq := hB
        have B := J _ hq
        have B : zB G A s.heap [zo a2 6 [.ref a16, .ref a17, .ref a18, .ref a19, .int 0, .int 0, .int 0, .int 0, .int 0, .long 0], zo a3 3 [.ref a20, .int 0, .int 0], zz G a4 3 (fun _ => 0), zi G a5 4 zPr, zo a6 7 [.ref a7, .ref a21, .int 0, .int 0], zi G a7 16 (fun _ => 0), zo a0 9 [.ref a2, .ref a8, .ref a9, .ref a1, .ref a10, .ref a11, .ref a4, .ref a3, .ref a12, .ref a6, .ref a13, .ref a5, .ref a14, .null, .int 0, .int (-1)], zo a1 0 [.ref a15, .int 0]] _ _ := B
        have hp := hp.symm
        subst hp
        refine W.widen (k := 0) (n := 0) (Nat.le_of_ble_eq_true rfl) (Nat.le_of_ble_eq_true rfl) ?_
        exact z_iret E hr hlocks B (v := 0) (Or.inr (Or.inr (Or.inl ⟨(by first | decide | omega), rfl⟩))) (fun t ht => z_q B [] (by decide) rfl ht) dX11_count_101
      · have e_3m : ¬ p0.toInt = 2 := zi_ne e_3
        by_cases e_4 : p0 = 3
        · subst e_4
          refine lv_tableIn (off := 101) (tgt := 102) E.x E.b dX11_count_1 (by decide) (by decide) (by decide +kernel) (by decide) ?_
          refine lv_aload_n E.x E.b dX11_count_102 rfl (lv_at hl 0 rfl) ?_
          refine z_calli E B (wc := [zo a0 9 [.ref a2, .ref a8, .ref a9, .ref a1, .ref a10, .ref a11, .ref a4, .ref a3, .ref a12, .ref a6, .ref a13, .ref a5, .ref a14, .null, .int 0, .int (-1)], zo a1 0 [.ref a15, .int 0]]) (wr := [zo a2 6 [.ref a16, .ref a17, .ref a18, .ref a19, .int 0, .int 0, .int 0, .int 0, .int 0, .long 0], zo a3 3 [.ref a20, .int 0, .int 0], zz G a4 3 (fun _ => 0), zi G a5 4 zPr, zo a6 7 [.ref a7, .ref a21, .int 0, .int 0], zi G a7 16 (fun _ => 0)]) [0, 1] [2, 3, 4, 5, 6, 7] rfl rfl (by decide) (by decide) (z_runV E B (As := []) (rest := []) [0, 1] rfl (by decide) mv_X11_setLevels t_982 0 (ci := 9) rfl rfl rfl (c_X11_setLevels_137 l G _ a0 a1 a2 a8 a9 a10 a11 a4 a3 a12 a6 a13 a5 a14 a15) rfl rfl ⟨Nat.le_of_ble_eq_true rfl, Nat.le_of_ble_eq_true rfl⟩ rfl hl.1 rfl (Nat.le_of_ble_eq_true rfl) dX11_count_103 ⟨(Nat.le_of_ble_eq_true rfl), (Nat.le_of_ble_eq_true rfl)⟩) (fun r t H locs hp hB J => ?_)
          have hq := hB
          have B := J _ hq
          have B : zB G A s.heap [zo a2 6 [.ref a16, .ref a17, .ref a18, .ref a19, .int 0, .int 0, .int 0, .int 0, .int 0, .long 0], zo a3 3 [.ref a20, .int 0, .int 0], zz G a4 3 (fun _ => 0), zi G a5 4 zPr, zo a6 7 [.ref a7, .ref a21, .int 0, .int 0], zi G a7 16 (fun _ => 0), zo a0 9 [.ref a2, .ref a8, .ref a9, .ref a1, .ref a10, .ref a11, .ref a4, .ref a3, .ref a12, .ref a6, .ref a13, .ref a5, .ref a14, .null, .int 0, .int (-1)], zo a1 0 [.ref a15, .int 0]] _ _ := B
          have hp := hp.symm
          subst hp
          refine W.widen (k := 0) (n := 0) (Nat.le_of_ble_eq_true rfl) (Nat.le_of_ble_eq_true rfl) ?_
          exact z_iret E hr hlocks B (v := 0) (Or.inr (Or.inr (Or.inr (Or.inl ⟨(by first | decide | omega), rfl⟩)))) (fun t ht => z_q B [] (by decide) rfl ht) dX11_count_106
        · have e_4m : ¬ p0.toInt = 3 := zi_ne e_4
          by_cases e_5 : p0 = 4
          · subst e_5
            refine lv_tableIn (off := 106) (tgt := 107) E.x E.b dX11_count_1 (by decide) (by decide) (by decide +kernel) (by decide) ?_
            refine lv_aload_n E.x E.b dX11_count_107 rfl (lv_at hl 0 rfl) ?_
            refine z_calli E B (wc := [zo a0 9 [.ref a2, .ref a8, .ref a9, .ref a1, .ref a10, .ref a11, .ref a4, .ref a3, .ref a12, .ref a6, .ref a13, .ref a5, .ref a14, .null, .int 0, .int (-1)], zo a1 0 [.ref a15, .int 0]]) (wr := [zo a2 6 [.ref a16, .ref a17, .ref a18, .ref a19, .int 0, .int 0, .int 0, .int 0, .int 0, .long 0], zo a3 3 [.ref a20, .int 0, .int 0], zz G a4 3 (fun _ => 0), zi G a5 4 zPr, zo a6 7 [.ref a7, .ref a21, .int 0, .int 0], zi G a7 16 (fun _ => 0)]) [0, 1] [2, 3, 4, 5, 6, 7] rfl rfl (by decide) (by decide) (z_runV E B (As := []) (rest := []) [0, 1] rfl (by decide) mv_X11_gatesThatAgree t_1147 0 (ci := 9) rfl rfl rfl (c_X11_gatesThatAgree_138 l G _ a0 a1 a2 a8 a9 a10 a11 a4 a3 a12 a6 a13 a5 a14 a15) rfl rfl ⟨Nat.le_of_ble_eq_true rfl, Nat.le_of_ble_eq_true rfl⟩ rfl hl.1 rfl (Nat.le_of_ble_eq_true rfl) dX11_count_108 ⟨(Nat.le_of_ble_eq_true rfl), (Nat.le_of_ble_eq_true rfl)⟩) (fun r t H locs hp hB J => ?_)
            have hq := hB
            have B := J _ hq
            have B : zB G A s.heap [zo a2 6 [.ref a16, .ref a17, .ref a18, .ref a19, .int 0, .int 0, .int 0, .int 0, .int 0, .long 0], zo a3 3 [.ref a20, .int 0, .int 0], zz G a4 3 (fun _ => 0), zi G a5 4 zPr, zo a6 7 [.ref a7, .ref a21, .int 0, .int 0], zi G a7 16 (fun _ => 0), zo a0 9 [.ref a2, .ref a8, .ref a9, .ref a1, .ref a10, .ref a11, .ref a4, .ref a3, .ref a12, .ref a6, .ref a13, .ref a5, .ref a14, .null, .int 0, .int (-1)], zo a1 0 [.ref a15, .int 0]] _ _ := B
            have hp := hp.symm
            subst hp
            refine W.widen (k := 0) (n := 0) (Nat.le_of_ble_eq_true rfl) (Nat.le_of_ble_eq_true rfl) ?_
            exact z_iret E hr hlocks B (v := 0) (Or.inr (Or.inr (Or.inr (Or.inr (Or.inl ⟨(by first | decide | omega), rfl⟩))))) (fun t ht => z_q B [] (by decide) rfl ht) dX11_count_111
          · have e_5m : ¬ p0.toInt = 4 := zi_ne e_5
            by_cases e_6 : p0 = 5
            · subst e_6
              refine lv_tableIn (off := 111) (tgt := 112) E.x E.b dX11_count_1 (by decide) (by decide) (by decide +kernel) (by decide) ?_
              refine lv_aload_n E.x E.b dX11_count_112 rfl (lv_at hl 0 rfl) ?_
              refine z_calli E B (wc := [zo a0 9 [.ref a2, .ref a8, .ref a9, .ref a1, .ref a10, .ref a11, .ref a4, .ref a3, .ref a12, .ref a6, .ref a13, .ref a5, .ref a14, .null, .int 0, .int (-1)], zo a1 0 [.ref a15, .int 0]]) (wr := [zo a2 6 [.ref a16, .ref a17, .ref a18, .ref a19, .int 0, .int 0, .int 0, .int 0, .int 0, .long 0], zo a3 3 [.ref a20, .int 0, .int 0], zz G a4 3 (fun _ => 0), zi G a5 4 zPr, zo a6 7 [.ref a7, .ref a21, .int 0, .int 0], zi G a7 16 (fun _ => 0)]) [0, 1] [2, 3, 4, 5, 6, 7] rfl rfl (by decide) (by decide) (z_runV E B (As := []) (rest := []) [0, 1] rfl (by decide) mv_X11_wiresUsed t_1151 0 (ci := 9) rfl rfl rfl (c_X11_wiresUsed_139 l G _ a0 a1 a2 a8 a9 a10 a11 a4 a3 a12 a6 a13 a5 a14 a15) rfl rfl ⟨Nat.le_of_ble_eq_true rfl, Nat.le_of_ble_eq_true rfl⟩ rfl hl.1 rfl (Nat.le_of_ble_eq_true rfl) dX11_count_113 ⟨(Nat.le_of_ble_eq_true rfl), (Nat.le_of_ble_eq_true rfl)⟩) (fun r t H locs hp hB J => ?_)
              have hq := hB
              have B := J _ hq
              have B : zB G A s.heap [zo a2 6 [.ref a16, .ref a17, .ref a18, .ref a19, .int 0, .int 0, .int 0, .int 0, .int 0, .long 0], zo a3 3 [.ref a20, .int 0, .int 0], zz G a4 3 (fun _ => 0), zi G a5 4 zPr, zo a6 7 [.ref a7, .ref a21, .int 0, .int 0], zi G a7 16 (fun _ => 0), zo a0 9 [.ref a2, .ref a8, .ref a9, .ref a1, .ref a10, .ref a11, .ref a4, .ref a3, .ref a12, .ref a6, .ref a13, .ref a5, .ref a14, .null, .int 0, .int (-1)], zo a1 0 [.ref a15, .int 0]] _ _ := B
              have hp := hp.symm
              subst hp
              refine W.widen (k := 0) (n := 0) (Nat.le_of_ble_eq_true rfl) (Nat.le_of_ble_eq_true rfl) ?_
              exact z_iret E hr hlocks B (v := 0) (Or.inr (Or.inr (Or.inr (Or.inr (Or.inr (Or.inl ⟨(by first | decide | omega), rfl⟩)))))) (fun t ht => z_q B [] (by decide) rfl ht) dX11_count_116
            · have e_6m : ¬ p0.toInt = 5 := zi_ne e_6
              by_cases e_7 : p0 = 6
              · subst e_7
                refine lv_tableIn (off := 116) (tgt := 117) E.x E.b dX11_count_1 (by decide) (by decide) (by decide +kernel) (by decide) ?_
                refine lv_aload_n E.x E.b dX11_count_117 rfl (lv_at hl 0 rfl) ?_
                refine z_get E B z_inX11 (ci := 9) rfl 0 (by decide) t_369 0 rfl rfl dX11_count_118 ?_
                refine z_get E B z_inX8 (ci := 6) rfl 4 (by decide) t_162 2 rfl rfl dX11_count_121 ?_
                refine W.widen (k := 0) (n := 0) (Nat.le_of_ble_eq_true rfl) (Nat.le_of_ble_eq_true rfl) ?_
                exact z_iret E hr hlocks B (v := 0) (Or.inr (Or.inr (Or.inr (Or.inr (Or.inr (Or.inr (Or.inl ⟨(by first | decide | omega), rfl⟩))))))) (fun t ht => z_q B [] (by decide) rfl ht) dX11_count_124
              · have e_7m : ¬ p0.toInt = 6 := zi_ne e_7
                by_cases e_8 : p0 = 7
                · subst e_8
                  refine lv_tableIn (off := 124) (tgt := 125) E.x E.b dX11_count_1 (by decide) (by decide) (by decide +kernel) (by decide) ?_
                  refine lv_aload_n E.x E.b dX11_count_125 rfl (lv_at hl 0 rfl) ?_
                  refine z_get E B z_inX11 (ci := 9) rfl 7 (by decide) t_376 0 rfl rfl dX11_count_126 ?_
                  refine z_get E B z_inX4 (ci := 3) rfl 2 (by decide) t_272 3 rfl rfl dX11_count_129 ?_
                  refine W.widen (k := 0) (n := 0) (Nat.le_of_ble_eq_true rfl) (Nat.le_of_ble_eq_true rfl) ?_
                  exact z_iret E hr hlocks B (v := 0) (Or.inr (Or.inr (Or.inr (Or.inr (Or.inr (Or.inr (Or.inr (Or.inl ⟨(by first | decide | omega), rfl⟩)))))))) (fun t ht => z_q B [] (by decide) rfl ht) dX11_count_132
                · have e_8m : ¬ p0.toInt = 7 := zi_ne e_8
                  by_cases e_9 : p0 = 8
                  · subst e_9
                    refine lv_tableIn (off := 132) (tgt := 133) E.x E.b dX11_count_1 (by decide) (by decide) (by decide +kernel) (by decide) ?_
                    refine lv_aload_n E.x E.b dX11_count_133 rfl (lv_at hl 0 rfl) ?_
                    refine z_calli E B (wc := [zo a0 9 [.ref a2, .ref a8, .ref a9, .ref a1, .ref a10, .ref a11, .ref a4, .ref a3, .ref a12, .ref a6, .ref a13, .ref a5, .ref a14, .null, .int 0, .int (-1)], zz G a4 3 (fun _ => 0)]) (wr := [zo a1 0 [.ref a15, .int 0], zo a2 6 [.ref a16, .ref a17, .ref a18, .ref a19, .int 0, .int 0, .int 0, .int 0, .int 0, .long 0], zo a3 3 [.ref a20, .int 0, .int 0], zi G a5 4 zPr, zo a6 7 [.ref a7, .ref a21, .int 0, .int 0], zi G a7 16 (fun _ => 0)]) [0, 4] [1, 2, 3, 5, 6, 7] rfl rfl (by decide) (by decide) (z_runV E B (As := []) (rest := []) [0, 4] rfl (by decide) mv_X11_slotsHeld t_1155 0 (ci := 9) rfl rfl rfl (c_X11_slotsHeld_140 l G _ a0 a4 a2 a8 a9 a1 a10 a11 a3 a12 a6 a13 a5 a14) rfl rfl ⟨Nat.le_of_ble_eq_true rfl, Nat.le_of_ble_eq_true rfl⟩ rfl hl.1 rfl (Nat.le_of_ble_eq_true rfl) dX11_count_134 ⟨(Nat.le_of_ble_eq_true rfl), (Nat.le_of_ble_eq_true rfl)⟩) (fun r t H locs hp hB J => ?_)
                    have hq := hB
                    have B := J _ hq
                    have B : zB G A s.heap [zo a1 0 [.ref a15, .int 0], zo a2 6 [.ref a16, .ref a17, .ref a18, .ref a19, .int 0, .int 0, .int 0, .int 0, .int 0, .long 0], zo a3 3 [.ref a20, .int 0, .int 0], zi G a5 4 zPr, zo a6 7 [.ref a7, .ref a21, .int 0, .int 0], zi G a7 16 (fun _ => 0), zo a0 9 [.ref a2, .ref a8, .ref a9, .ref a1, .ref a10, .ref a11, .ref a4, .ref a3, .ref a12, .ref a6, .ref a13, .ref a5, .ref a14, .null, .int 0, .int (-1)], zz G a4 3 (fun _ => 0)] _ _ := B
                    have hp := hp.symm
                    subst hp
                    refine W.widen (k := 0) (n := 0) (Nat.le_of_ble_eq_true rfl) (Nat.le_of_ble_eq_true rfl) ?_
                    exact z_iret E hr hlocks B (v := 0) (Or.inr (Or.inr (Or.inr (Or.inr (Or.inr (Or.inr (Or.inr (Or.inr (Or.inl ⟨(by first | decide | omega), rfl⟩))))))))) (fun t ht => z_q B [] (by decide) rfl ht) dX11_count_137
                  · have e_9m : ¬ p0.toInt = 8 := zi_ne e_9
                    by_cases e_10 : p0 = 9
                    · subst e_10
                      refine lv_tableIn (off := 137) (tgt := 138) E.x E.b dX11_count_1 (by decide) (by decide) (by decide +kernel) (by decide) ?_
                      refine lv_aload_n E.x E.b dX11_count_138 rfl (lv_at hl 0 rfl) ?_
                      refine z_get E B z_inX11 (ci := 9) rfl 11 (by decide) t_380 0 rfl rfl dX11_count_139 ?_
                      refine lv_iload_n E.x E.b dX11_count_142 rfl (lv_at hl 1 rfl) ?_
                      refine lv_bipush (v := 9) E.x E.b dX11_count_143 (by decide) ?_
                      refine lv_isub E.x E.b dX11_count_145 (z_topi 0 (by decide +kernel) ?_)
                      refine z_iald E B 5 rfl (show ¬ ((0 : Int32) < 0 ∨ 4 ≤ (0 : Int32).toNatClampNeg) by decide +kernel) dX11_count_146 (z_topi 1 (by decide +kernel) ?_)
                      refine W.widen (k := 0) (n := 0) (Nat.le_of_ble_eq_true rfl) (Nat.le_of_ble_eq_true rfl) ?_
                      exact z_iret E hr hlocks B (v := 1) (Or.inr (Or.inr (Or.inr (Or.inr (Or.inr (Or.inr (Or.inr (Or.inr (Or.inr (Or.inl ⟨(by first | decide | omega), rfl⟩)))))))))) (fun t ht => z_q B [] (by decide) rfl ht) dX11_count_147
                    · have e_10m : ¬ p0.toInt = 9 := zi_ne e_10
                      by_cases e_11 : p0 = 10
                      · subst e_11
                        refine lv_tableIn (off := 137) (tgt := 138) E.x E.b dX11_count_1 (by decide) (by decide) (by decide +kernel) (by decide) ?_
                        refine lv_aload_n E.x E.b dX11_count_138 rfl (lv_at hl 0 rfl) ?_
                        refine z_get E B z_inX11 (ci := 9) rfl 11 (by decide) t_380 0 rfl rfl dX11_count_139 ?_
                        refine lv_iload_n E.x E.b dX11_count_142 rfl (lv_at hl 1 rfl) ?_
                        refine lv_bipush (v := 9) E.x E.b dX11_count_143 (by decide) ?_
                        refine lv_isub E.x E.b dX11_count_145 (z_topi 1 (by decide +kernel) ?_)
                        refine z_iald E B 5 rfl (show ¬ ((1 : Int32) < 0 ∨ 4 ≤ (1 : Int32).toNatClampNeg) by decide +kernel) dX11_count_146 (z_topi 1 (by decide +kernel) ?_)
                        refine W.widen (k := 0) (n := 0) (Nat.le_of_ble_eq_true rfl) (Nat.le_of_ble_eq_true rfl) ?_
                        exact z_iret E hr hlocks B (v := 1) (Or.inr (Or.inr (Or.inr (Or.inr (Or.inr (Or.inr (Or.inr (Or.inr (Or.inr (Or.inr (Or.inl ⟨(by first | decide | omega), rfl⟩))))))))))) (fun t ht => z_q B [] (by decide) rfl ht) dX11_count_147
                      · have e_11m : ¬ p0.toInt = 10 := zi_ne e_11
                        by_cases e_12 : p0 = 11
                        · subst e_12
                          refine lv_tableIn (off := 137) (tgt := 138) E.x E.b dX11_count_1 (by decide) (by decide) (by decide +kernel) (by decide) ?_
                          refine lv_aload_n E.x E.b dX11_count_138 rfl (lv_at hl 0 rfl) ?_
                          refine z_get E B z_inX11 (ci := 9) rfl 11 (by decide) t_380 0 rfl rfl dX11_count_139 ?_
                          refine lv_iload_n E.x E.b dX11_count_142 rfl (lv_at hl 1 rfl) ?_
                          refine lv_bipush (v := 9) E.x E.b dX11_count_143 (by decide) ?_
                          refine lv_isub E.x E.b dX11_count_145 (z_topi 2 (by decide +kernel) ?_)
                          refine z_iald E B 5 rfl (show ¬ ((2 : Int32) < 0 ∨ 4 ≤ (2 : Int32).toNatClampNeg) by decide +kernel) dX11_count_146 (z_topi 5 (by decide +kernel) ?_)
                          refine W.widen (k := 0) (n := 0) (Nat.le_of_ble_eq_true rfl) (Nat.le_of_ble_eq_true rfl) ?_
                          exact z_iret E hr hlocks B (v := 5) (Or.inr (Or.inr (Or.inr (Or.inr (Or.inr (Or.inr (Or.inr (Or.inr (Or.inr (Or.inr (Or.inr (Or.inl ⟨(by first | decide | omega), rfl⟩)))))))))))) (fun t ht => z_q B [] (by decide) rfl ht) dX11_count_147
                        · have e_12m : ¬ p0.toInt = 11 := zi_ne e_12
                          by_cases e_13 : p0 = 12
                          · subst e_13
                            refine lv_tableIn (off := 137) (tgt := 138) E.x E.b dX11_count_1 (by decide) (by decide) (by decide +kernel) (by decide) ?_
                            refine lv_aload_n E.x E.b dX11_count_138 rfl (lv_at hl 0 rfl) ?_
                            refine z_get E B z_inX11 (ci := 9) rfl 11 (by decide) t_380 0 rfl rfl dX11_count_139 ?_
                            refine lv_iload_n E.x E.b dX11_count_142 rfl (lv_at hl 1 rfl) ?_
                            refine lv_bipush (v := 9) E.x E.b dX11_count_143 (by decide) ?_
                            refine lv_isub E.x E.b dX11_count_145 (z_topi 3 (by decide +kernel) ?_)
                            refine z_iald E B 5 rfl (show ¬ ((3 : Int32) < 0 ∨ 4 ≤ (3 : Int32).toNatClampNeg) by decide +kernel) dX11_count_146 (z_topi 13 (by decide +kernel) ?_)
                            refine W.widen (k := 0) (n := 0) (Nat.le_of_ble_eq_true rfl) (Nat.le_of_ble_eq_true rfl) ?_
                            exact z_iret E hr hlocks B (v := 13) (Or.inr (Or.inr (Or.inr (Or.inr (Or.inr (Or.inr (Or.inr (Or.inr (Or.inr (Or.inr (Or.inr (Or.inr (Or.inl ⟨(by first | decide | omega), rfl⟩))))))))))))) (fun t ht => z_q B [] (by decide) rfl ht) dX11_count_147
                          · have e_13m : ¬ p0.toInt = 12 := zi_ne e_13
                            by_cases e_14 : p0 = 13
                            · subst e_14
                              refine lv_tableIn (off := 147) (tgt := 148) E.x E.b dX11_count_1 (by decide) (by decide) (by decide +kernel) (by decide) ?_
                              refine lv_aload_n E.x E.b dX11_count_148 rfl (lv_at hl 0 rfl) ?_
                              refine z_calli E B (wc := [zo a0 9 [.ref a2, .ref a8, .ref a9, .ref a1, .ref a10, .ref a11, .ref a4, .ref a3, .ref a12, .ref a6, .ref a13, .ref a5, .ref a14, .null, .int 0, .int (-1)], zo a1 0 [.ref a15, .int 0]]) (wr := [zo a2 6 [.ref a16, .ref a17, .ref a18, .ref a19, .int 0, .int 0, .int 0, .int 0, .int 0, .long 0], zo a3 3 [.ref a20, .int 0, .int 0], zz G a4 3 (fun _ => 0), zi G a5 4 zPr, zo a6 7 [.ref a7, .ref a21, .int 0, .int 0], zi G a7 16 (fun _ => 0)]) [0, 1] [2, 3, 4, 5, 6, 7] rfl rfl (by decide) (by decide) (z_runV E B (As := []) (rest := []) [0, 1] rfl (by decide) mv_X11_allControls t_1159 0 (ci := 9) rfl rfl rfl (c_X11_allControls_141 l G _ a0 a1 a2 a8 a9 a10 a11 a4 a3 a12 a6 a13 a5 a14 a15) rfl rfl ⟨Nat.le_of_ble_eq_true rfl, Nat.le_of_ble_eq_true rfl⟩ rfl hl.1 rfl (Nat.le_of_ble_eq_true rfl) dX11_count_149 ⟨(Nat.le_of_ble_eq_true rfl), (Nat.le_of_ble_eq_true rfl)⟩) (fun r t H locs hp hB J => ?_)
                              have hq := hB
                              have B := J _ hq
                              have B : zB G A s.heap [zo a2 6 [.ref a16, .ref a17, .ref a18, .ref a19, .int 0, .int 0, .int 0, .int 0, .int 0, .long 0], zo a3 3 [.ref a20, .int 0, .int 0], zz G a4 3 (fun _ => 0), zi G a5 4 zPr, zo a6 7 [.ref a7, .ref a21, .int 0, .int 0], zi G a7 16 (fun _ => 0), zo a0 9 [.ref a2, .ref a8, .ref a9, .ref a1, .ref a10, .ref a11, .ref a4, .ref a3, .ref a12, .ref a6, .ref a13, .ref a5, .ref a14, .null, .int 0, .int (-1)], zo a1 0 [.ref a15, .int 0]] _ _ := B
                              have hp := hp.symm
                              subst hp
                              refine W.widen (k := 0) (n := 0) (Nat.le_of_ble_eq_true rfl) (Nat.le_of_ble_eq_true rfl) ?_
                              exact z_iret E hr hlocks B (v := 0) (Or.inr (Or.inr (Or.inr (Or.inr (Or.inr (Or.inr (Or.inr (Or.inr (Or.inr (Or.inr (Or.inr (Or.inr (Or.inr (Or.inl ⟨(by first | decide | omega), rfl⟩)))))))))))))) (fun t ht => z_q B [] (by decide) rfl ht) dX11_count_152
                            · have e_14m : ¬ p0.toInt = 13 := zi_ne e_14
                              by_cases e_15 : p0 = 14
                              · subst e_15
                                refine lv_tableIn (off := 152) (tgt := 153) E.x E.b dX11_count_1 (by decide) (by decide) (by decide +kernel) (by decide) ?_
                                refine lv_aload_n E.x E.b dX11_count_153 rfl (lv_at hl 0 rfl) ?_
                                refine z_get E B z_inX11 (ci := 9) rfl 9 (by decide) t_378 0 rfl rfl dX11_count_154 ?_
                                refine lv_aload_n E.x E.b dX11_count_157 rfl (lv_at hl 0 rfl) ?_
                                refine z_get E B z_inX11 (ci := 9) rfl 3 (by decide) t_372 0 rfl rfl dX11_count_158 ?_
                                refine lv_aload_n E.x E.b dX11_count_161 rfl (lv_at hl 0 rfl) ?_
                                refine z_get E B z_inX11 (ci := 9) rfl 14 (by decide) t_383 0 rfl rfl dX11_count_162 ?_
                                refine z_callv E B (wc := [zo a6 7 [.ref a7, .ref a21, .int 0, .int 0], zo a1 0 [.ref a15, .int 0], zi G a7 16 (fun _ => 0)]) (wr := [zo a0 9 [.ref a2, .ref a8, .ref a9, .ref a1, .ref a10, .ref a11, .ref a4, .ref a3, .ref a12, .ref a6, .ref a13, .ref a5, .ref a14, .null, .int 0, .int (-1)], zo a2 6 [.ref a16, .ref a17, .ref a18, .ref a19, .int 0, .int 0, .int 0, .int 0, .int 0, .long 0], zo a3 3 [.ref a20, .int 0, .int 0], zz G a4 3 (fun _ => 0), zi G a5 4 zPr]) [6, 1, 7] [0, 2, 3, 4, 5] rfl rfl (by decide) (by decide) (z_runV E B (As := [.ref a1, .int 0]) (rest := []) [6, 1, 7] rfl (by decide) mv_X9_look t_1070 0 (ci := 7) rfl rfl rfl (c_X9_look_124 l G _ a6 a1 a7 a21 a15) rfl rfl ⟨Nat.le_of_ble_eq_true rfl, Nat.le_of_ble_eq_true rfl⟩ rfl hl.1 rfl (Nat.le_of_ble_eq_true rfl) dX11_count_165 ⟨(Nat.le_of_ble_eq_true rfl), (Nat.le_of_ble_eq_true rfl)⟩) (fun  t H locs hp hB J => ?_)
                                have hq := hB
                                have B := J _ hq
                                have B : zB G A s.heap [zo a0 9 [.ref a2, .ref a8, .ref a9, .ref a1, .ref a10, .ref a11, .ref a4, .ref a3, .ref a12, .ref a6, .ref a13, .ref a5, .ref a14, .null, .int 0, .int (-1)], zo a2 6 [.ref a16, .ref a17, .ref a18, .ref a19, .int 0, .int 0, .int 0, .int 0, .int 0, .long 0], zo a3 3 [.ref a20, .int 0, .int 0], zz G a4 3 (fun _ => 0), zi G a5 4 zPr, zo a6 7 [.ref a7, .ref a21, .int 1, .int 0], zo a1 0 [.ref a15, .int 0], zi G a7 16 (fun _ => 0)] _ _ := B
                                refine lv_aload_n E.x E.b dX11_count_168 rfl (lv_at hl 0 rfl) ?_
                                refine z_get E B z_inX11 (ci := 9) rfl 9 (by decide) t_378 0 rfl rfl dX11_count_169 ?_
                                refine z_calli E B (wc := [zo a6 7 [.ref a7, .ref a21, .int 1, .int 0], zi G a7 16 (fun _ => 0)]) (wr := [zo a0 9 [.ref a2, .ref a8, .ref a9, .ref a1, .ref a10, .ref a11, .ref a4, .ref a3, .ref a12, .ref a6, .ref a13, .ref a5, .ref a14, .null, .int 0, .int (-1)], zo a2 6 [.ref a16, .ref a17, .ref a18, .ref a19, .int 0, .int 0, .int 0, .int 0, .int 0, .long 0], zo a3 3 [.ref a20, .int 0, .int 0], zz G a4 3 (fun _ => 0), zi G a5 4 zPr, zo a1 0 [.ref a15, .int 0]]) [5, 7] [0, 1, 2, 3, 4, 6] rfl rfl (by decide) (by decide) (z_runV E B (As := []) (rest := []) [5, 7] rfl (by decide) mv_X9_seeingRows t_1163 0 (ci := 7) rfl rfl rfl (c_X9_seeingRows_142 l G _ a6 a7 a21) rfl rfl ⟨Nat.le_of_ble_eq_true rfl, Nat.le_of_ble_eq_true rfl⟩ rfl hl.1 rfl (Nat.le_of_ble_eq_true rfl) dX11_count_172 ⟨(Nat.le_of_ble_eq_true rfl), (Nat.le_of_ble_eq_true rfl)⟩) (fun r t H locs hp hB J => ?_)
                                have hq := hB
                                have B := J _ hq
                                have B : zB G A s.heap [zo a0 9 [.ref a2, .ref a8, .ref a9, .ref a1, .ref a10, .ref a11, .ref a4, .ref a3, .ref a12, .ref a6, .ref a13, .ref a5, .ref a14, .null, .int 0, .int (-1)], zo a2 6 [.ref a16, .ref a17, .ref a18, .ref a19, .int 0, .int 0, .int 0, .int 0, .int 0, .long 0], zo a3 3 [.ref a20, .int 0, .int 0], zz G a4 3 (fun _ => 0), zi G a5 4 zPr, zo a1 0 [.ref a15, .int 0], zo a6 7 [.ref a7, .ref a21, .int 1, .int 0], zi G a7 16 (fun _ => 0)] _ _ := B
                                have hp := hp.symm
                                subst hp
                                refine W.widen (k := 0) (n := 0) (Nat.le_of_ble_eq_true rfl) (Nat.le_of_ble_eq_true rfl) ?_
                                exact z_iret E hr hlocks B (v := 0) (Or.inr (Or.inr (Or.inr (Or.inr (Or.inr (Or.inr (Or.inr (Or.inr (Or.inr (Or.inr (Or.inr (Or.inr (Or.inr (Or.inr (Or.inl ⟨(by first | decide | omega), rfl⟩))))))))))))))) (fun t ht => z_q B [] (by decide) rfl ht) dX11_count_175
                              · have e_15m : ¬ p0.toInt = 14 := zi_ne e_15
                                by_cases e_16 : p0 = 15
                                · subst e_16
                                  refine lv_tableIn (off := 175) (tgt := 176) E.x E.b dX11_count_1 (by decide) (by decide) (by decide +kernel) (by decide) ?_
                                  refine lv_aload_n E.x E.b dX11_count_176 rfl (lv_at hl 0 rfl) ?_
                                  refine z_calli E B (wc := [zo a0 9 [.ref a2, .ref a8, .ref a9, .ref a1, .ref a10, .ref a11, .ref a4, .ref a3, .ref a12, .ref a6, .ref a13, .ref a5, .ref a14, .null, .int 0, .int (-1)]]) (wr := [zo a1 0 [.ref a15, .int 0], zo a2 6 [.ref a16, .ref a17, .ref a18, .ref a19, .int 0, .int 0, .int 0, .int 0, .int 0, .long 0], zo a3 3 [.ref a20, .int 0, .int 0], zz G a4 3 (fun _ => 0), zi G a5 4 zPr, zo a6 7 [.ref a7, .ref a21, .int 0, .int 0], zi G a7 16 (fun _ => 0)]) [0] [1, 2, 3, 4, 5, 6, 7] rfl rfl (by decide) (by decide) (z_runV E B (As := []) (rest := []) [0] rfl (by decide) mv_X11_degree t_1167 0 (ci := 9) rfl rfl rfl (c_X11_degree_143 l G _ a0 a2 a8 a9 a1 a10 a11 a4 a3 a12 a6 a13 a5 a14) rfl rfl ⟨Nat.le_of_ble_eq_true rfl, Nat.le_of_ble_eq_true rfl⟩ rfl hl.1 rfl (Nat.le_of_ble_eq_true rfl) dX11_count_177 ⟨(Nat.le_of_ble_eq_true rfl), (Nat.le_of_ble_eq_true rfl)⟩) (fun r t H locs hp hB J => ?_)
                                  have hq := hB
                                  have B := J _ hq
                                  have B : zB G A s.heap [zo a1 0 [.ref a15, .int 0], zo a2 6 [.ref a16, .ref a17, .ref a18, .ref a19, .int 0, .int 0, .int 0, .int 0, .int 0, .long 0], zo a3 3 [.ref a20, .int 0, .int 0], zz G a4 3 (fun _ => 0), zi G a5 4 zPr, zo a6 7 [.ref a7, .ref a21, .int 0, .int 0], zi G a7 16 (fun _ => 0), zo a0 9 [.ref a2, .ref a8, .ref a9, .ref a1, .ref a10, .ref a11, .ref a4, .ref a3, .ref a12, .ref a6, .ref a13, .ref a5, .ref a14, .null, .int 0, .int (-1)]] _ _ := B
                                  have hp := hp.symm
                                  subst hp
                                  refine W.widen (k := 0) (n := 0) (Nat.le_of_ble_eq_true rfl) (Nat.le_of_ble_eq_true rfl) ?_
                                  exact z_iret E hr hlocks B (v := 0) (Or.inr (Or.inr (Or.inr (Or.inr (Or.inr (Or.inr (Or.inr (Or.inr (Or.inr (Or.inr (Or.inr (Or.inr (Or.inr (Or.inr (Or.inr (Or.inl ⟨(by first | decide | omega), rfl⟩)))))))))))))))) (fun t ht => z_q B [] (by decide) rfl ht) dX11_count_180
                                · have e_16m : ¬ p0.toInt = 15 := zi_ne e_16
                                  by_cases e_17 : p0 = 16
                                  · subst e_17
                                    refine lv_tableIn (off := 180) (tgt := 181) E.x E.b dX11_count_1 (by decide) (by decide) (by decide +kernel) (by decide) ?_
                                    refine lv_aload_n E.x E.b dX11_count_181 rfl (lv_at hl 0 rfl) ?_
                                    refine z_calli E B (wc := [zo a0 9 [.ref a2, .ref a8, .ref a9, .ref a1, .ref a10, .ref a11, .ref a4, .ref a3, .ref a12, .ref a6, .ref a13, .ref a5, .ref a14, .null, .int 0, .int (-1)], zo a1 0 [.ref a15, .int 0]]) (wr := [zo a2 6 [.ref a16, .ref a17, .ref a18, .ref a19, .int 0, .int 0, .int 0, .int 0, .int 0, .long 0], zo a3 3 [.ref a20, .int 0, .int 0], zz G a4 3 (fun _ => 0), zi G a5 4 zPr, zo a6 7 [.ref a7, .ref a21, .int 0, .int 0], zi G a7 16 (fun _ => 0)]) [0, 1] [2, 3, 4, 5, 6, 7] rfl rfl (by decide) (by decide) (z_runV E B (As := []) (rest := []) [0, 1] rfl (by decide) mv_X11_unlikeGates t_1171 0 (ci := 9) rfl rfl rfl (c_X11_unlikeGates_144 l G _ a0 a1 a2 a8 a9 a10 a11 a4 a3 a12 a6 a13 a5 a14 a15) rfl rfl ⟨Nat.le_of_ble_eq_true rfl, Nat.le_of_ble_eq_true rfl⟩ rfl hl.1 rfl (Nat.le_of_ble_eq_true rfl) dX11_count_182 ⟨(Nat.le_of_ble_eq_true rfl), (Nat.le_of_ble_eq_true rfl)⟩) (fun r t H locs hp hB J => ?_)
                                    have hq := hB
                                    have B := J _ hq
                                    have B : zB G A s.heap [zo a2 6 [.ref a16, .ref a17, .ref a18, .ref a19, .int 0, .int 0, .int 0, .int 0, .int 0, .long 0], zo a3 3 [.ref a20, .int 0, .int 0], zz G a4 3 (fun _ => 0), zi G a5 4 zPr, zo a6 7 [.ref a7, .ref a21, .int 0, .int 0], zi G a7 16 (fun _ => 0), zo a0 9 [.ref a2, .ref a8, .ref a9, .ref a1, .ref a10, .ref a11, .ref a4, .ref a3, .ref a12, .ref a6, .ref a13, .ref a5, .ref a14, .null, .int 0, .int (-1)], zo a1 0 [.ref a15, .int 0]] _ _ := B
                                    have hp := hp.symm
                                    subst hp
                                    refine W.widen (k := 0) (n := 0) (Nat.le_of_ble_eq_true rfl) (Nat.le_of_ble_eq_true rfl) ?_
                                    exact z_iret E hr hlocks B (v := 0) (Or.inr (Or.inr (Or.inr (Or.inr (Or.inr (Or.inr (Or.inr (Or.inr (Or.inr (Or.inr (Or.inr (Or.inr (Or.inr (Or.inr (Or.inr (Or.inr (Or.inl ⟨(by first | decide | omega), rfl⟩))))))))))))))))) (fun t ht => z_q B [] (by decide) rfl ht) dX11_count_185
                                  · have e_17m : ¬ p0.toInt = 16 := zi_ne e_17
                                    refine lv_tableOut (tgt := 186) E.x E.b dX11_count_1 (by omega) (by decide) ?_
                                    refine lv_iconst (v := (-1)) E.x E.b dX11_count_186 (by decide) ?_
                                    refine W.widen (k := 0) (n := 0) (Nat.le_of_ble_eq_true rfl) (Nat.le_of_ble_eq_true rfl) ?_
                                    exact z_iret E hr hlocks B (v := (-1)) (Or.inr (Or.inr (Or.inr (Or.inr (Or.inr (Or.inr (Or.inr (Or.inr (Or.inr (Or.inr (Or.inr (Or.inr (Or.inr (Or.inr (Or.inr (Or.inr (Or.inr (⟨(by first | decide | omega), (by first | decide | omega), (by first | decide | omega), (by first | decide | omega), (by first | decide | omega), (by first | decide | omega), (by first | decide | omega), (by first | decide | omega), (by first | decide | omega), (by first | decide | omega), (by first | decide | omega), (by first | decide | omega), (by first | decide | omega), (by first | decide | omega), (by first | decide | omega), (by first | decide | omega), (by first | decide | omega), rfl⟩)))))))))))))))))) (fun t ht => z_q B [] (by decide) rfl ht) dX11_count_187
set_option maxHeartbeats 4000000 in
set_option maxRecDepth 100000 in
theorem c_X12_lays_146 (l : Launch) (G : zGT) (sz : Nat) (a0 a1 a2 a3 a4 a5 a6 a7 a8 a9 a10 a11 a12 a13 a14 a15 a16 a17 a18 a19 a20 a21 a22 a23 a24 a25 a26 a27 a28 a29 a30 a31 a32 a33 : Nat) (p0 : Int32) : Met l yX12_lays (.code yX12_lays cX12_lays 3 none :: zT) ({ frames := 0, cells := 0, slots := 0, locals := 64 }) (va_Pc [.ref a0, .int p0] (zPc G [zo a0 10 (.int 0 :: .ref a1 :: .int 0 :: .ref a2 :: .int 0 :: .ref a3 :: .ref a4 :: .ref a5 :: .ref a6 :: .ref a7 :: .int 0 :: .int 0 :: .int 0 :: .int 0 :: .int 0 :: .int 0 :: .int (-1) :: .int 0 :: .ref a8 :: .int 0 :: .int 0 :: .ref a9 :: .int 0 :: .int 0 :: .ref a10 :: .int 0 :: .int 0 :: .ref a11 :: .ref a12 :: .ref a13 :: .ref a14 :: .int 0 :: .int 0 :: .ref a15 :: .ref a16 :: .ref a17 :: .ref a18 :: .ref a19 :: .int 0 :: .ref a20 :: .ref a21 :: .int 0 :: .int 0 :: .ref a22 :: .ref a23 :: .ref a24 :: .ref a25 :: .ref a26 :: .int (-1) :: .ref a27 :: .ref a28 :: .ref a29 :: .ref a30 :: .ref a31 :: .ref a32 :: .ref a33 :: []), zb G a1 2000 (fun _ => 0)] sz)) ((fun A => va_Qv (fun (_ : Unit) => True) (fun (_ : Unit) t => ∃ (F1 : Nat → Int32), zQ G [zo a0 10 (.int 0 :: .ref a1 :: .int 4 :: .ref a2 :: .int 0 :: .ref a3 :: .ref a4 :: .ref a5 :: .ref a6 :: .ref a7 :: .int 0 :: .int 0 :: .int 0 :: .int 0 :: .int 0 :: .int 0 :: .int (-1) :: .int 0 :: .ref a8 :: .int 0 :: .int 0 :: .ref a9 :: .int 0 :: .int 0 :: .ref a10 :: .int 0 :: .int 0 :: .ref a11 :: .ref a12 :: .ref a13 :: .ref a14 :: .int 0 :: .int 0 :: .ref a15 :: .ref a16 :: .ref a17 :: .ref a18 :: .ref a19 :: .int 0 :: .ref a20 :: .ref a21 :: .int 0 :: .int 0 :: .ref a22 :: .ref a23 :: .ref a24 :: .ref a25 :: .ref a26 :: .int (-1) :: .ref a27 :: .ref a28 :: .ref a29 :: .ref a30 :: .ref a31 :: .ref a32 :: .ref a33 :: []), zb G a1 2000 F1] A t) A) (va_A [zo a0 10 (.int 0 :: .ref a1 :: .int 0 :: .ref a2 :: .int 0 :: .ref a3 :: .ref a4 :: .ref a5 :: .ref a6 :: .ref a7 :: .int 0 :: .int 0 :: .int 0 :: .int 0 :: .int 0 :: .int 0 :: .int (-1) :: .int 0 :: .ref a8 :: .int 0 :: .int 0 :: .ref a9 :: .int 0 :: .int 0 :: .ref a10 :: .int 0 :: .int 0 :: .ref a11 :: .ref a12 :: .ref a13 :: .ref a14 :: .int 0 :: .int 0 :: .ref a15 :: .ref a16 :: .ref a17 :: .ref a18 :: .ref a19 :: .int 0 :: .ref a20 :: .ref a21 :: .int 0 :: .int 0 :: .ref a22 :: .ref a23 :: .ref a24 :: .ref a25 :: .ref a26 :: .int (-1) :: .ref a27 :: .ref a28 :: .ref a29 :: .ref a30 :: .ref a31 :: .ref a32 :: .ref a33 :: []), zb G a1 2000 (fun _ => 0)] sz)) 0 0 (va_A [zo a0 10 (.int 0 :: .ref a1 :: .int 0 :: .ref a2 :: .int 0 :: .ref a3 :: .ref a4 :: .ref a5 :: .ref a6 :: .ref a7 :: .int 0 :: .int 0 :: .int 0 :: .int 0 :: .int 0 :: .int 0 :: .int (-1) :: .int 0 :: .ref a8 :: .int 0 :: .int 0 :: .ref a9 :: .int 0 :: .int 0 :: .ref a10 :: .int 0 :: .int 0 :: .ref a11 :: .ref a12 :: .ref a13 :: .ref a14 :: .int 0 :: .int 0 :: .ref a15 :: .ref a16 :: .ref a17 :: .ref a18 :: .ref a19 :: .int 0 :: .ref a20 :: .ref a21 :: .int 0 :: .int 0 :: .ref a22 :: .ref a23 :: .ref a24 :: .ref a25 :: .ref a26 :: .int (-1) :: .ref a27 :: .ref a28 :: .ref a29 :: .ref a30 :: .ref a31 :: .ref a32 :: .ref a33 :: []), zb G a1 2000 (fun _ => 0)] sz) := by
  refine z_start (y := yX12_lays) (bytes := cX12_lays) (maxL := 3) (ret := none) (av := [.ref a0, .int p0]) (QA := (fun A => va_Qv (fun (_ : Unit) => True) (fun (_ : Unit) t => ∃ (F1 : Nat → Int32), zQ G [zo a0 10 (.int 0 :: .ref a1 :: .int 4 :: .ref a2 :: .int 0 :: .ref a3 :: .ref a4 :: .ref a5 :: .ref a6 :: .ref a7 :: .int 0 :: .int 0 :: .int 0 :: .int 0 :: .int 0 :: .int 0 :: .int (-1) :: .int 0 :: .ref a8 :: .int 0 :: .int 0 :: .ref a9 :: .int 0 :: .int 0 :: .ref a10 :: .int 0 :: .int 0 :: .ref a11 :: .ref a12 :: .ref a13 :: .ref a14 :: .int 0 :: .int 0 :: .ref a15 :: .ref a16 :: .ref a17 :: .ref a18 :: .ref a19 :: .int 0 :: .ref a20 :: .ref a21 :: .int 0 :: .int 0 :: .ref a22 :: .ref a23 :: .ref a24 :: .ref a25 :: .ref a26 :: .int (-1) :: .ref a27 :: .ref a28 :: .ref a29 :: .ref a30 :: .ref a31 :: .ref a32 :: .ref a33 :: []), zb G a1 2000 F1] A t) A)) (by decide) ⟨Nat.le_of_ble_eq_true rfl, trivial⟩ ?_
  intro p e s m below meth c A ls E B hr hlocks hin hl
  have hl : lv_has ls 3 [(0, .ref a0), (1, .int p0)] := hl
  have B : zB G A s.heap [zo a0 10 (.int 0 :: .ref a1 :: .int 0 :: .ref a2 :: .int 0 :: .ref a3 :: .ref a4 :: .ref a5 :: .ref a6 :: .ref a7 :: .int 0 :: .int 0 :: .int 0 :: .int 0 :: .int 0 :: .int 0 :: .int (-1) :: .int 0 :: .ref a8 :: .int 0 :: .int 0 :: .ref a9 :: .int 0 :: .int 0 :: .ref a10 :: .int 0 :: .int 0 :: .ref a11 :: .ref a12 :: .ref a13 :: .ref a14 :: .int 0 :: .int 0 :: .ref a15 :: .ref a16 :: .ref a17 :: .ref a18 :: .ref a19 :: .int 0 :: .ref a20 :: .ref a21 :: .int 0 :: .int 0 :: .ref a22 :: .ref a23 :: .ref a24 :: .ref a25 :: .ref a26 :: .int (-1) :: .ref a27 :: .ref a28 :: .ref a29 :: .ref a30 :: .ref a31 :: .ref a32 :: .ref a33 :: []), zb G a1 2000 (fun _ => 0)] s.heap [] := B
  refine lv_bipush (v := 24) E.x E.b dX12_lays_0 (by decide) ?_
  refine lv_istore_n (lv' := [(2, .int 24), (0, .ref a0), (1, .int p0)]) E.x E.b dX12_lays_2 rfl hl (by decide) rfl (fun ls hl => ?_)
  refine lv_iload_n E.x E.b dX12_lays_3 rfl (lv_at hl 0 rfl) ?_
  refine lv_if_lt (tgt := 36) E.x E.b dX12_lays_4 (by decide) (fun c => absurd c (by decide +kernel)) (fun _ => ?_)
  refine lv_aload_n E.x E.b dX12_lays_7 rfl (lv_at hl 1 rfl) ?_
  refine z_get E B z_inX12 (ci := 10) rfl 1 (by decide) t_1193 0 rfl rfl dX12_lays_8 ?_
  refine lv_aload_n E.x E.b dX12_lays_11 rfl (lv_at hl 1 rfl) ?_
  refine z_get E B z_inX12 (ci := 10) rfl 2 (by decide) t_1194 0 rfl rfl dX12_lays_12 ?_
  refine lv_iload_n E.x E.b dX12_lays_15 rfl (lv_at hl 2 rfl) ?_
  refine lv_iload_n E.x E.b dX12_lays_16 rfl (lv_at hl 0 rfl) ?_
  refine lv_ishr E.x E.b dX12_lays_17 ?_
  refine lv_topi (fun x_1 _ => ?_)
  refine lv_i2b (v := _) E.x E.b dX12_lays_18 rfl ?_
  refine lv_topi (fun x_2 _ => ?_)
  refine z_bast E B 1 rfl (show ¬ ((0 : Int32) < 0 ∨ 2000 ≤ (0 : Int32).toNatClampNeg) by decide +kernel) dX12_lays_19 (fun H locs g_3 B => ?_)
  have B : zB G A s.heap [zo a0 10 (.int 0 :: .ref a1 :: .int 0 :: .ref a2 :: .int 0 :: .ref a3 :: .ref a4 :: .ref a5 :: .ref a6 :: .ref a7 :: .int 0 :: .int 0 :: .int 0 :: .int 0 :: .int 0 :: .int 0 :: .int (-1) :: .int 0 :: .ref a8 :: .int 0 :: .int 0 :: .ref a9 :: .int 0 :: .int 0 :: .ref a10 :: .int 0 :: .int 0 :: .ref a11 :: .ref a12 :: .ref a13 :: .ref a14 :: .int 0 :: .int 0 :: .ref a15 :: .ref a16 :: .ref a17 :: .ref a18 :: .ref a19 :: .int 0 :: .ref a20 :: .ref a21 :: .int 0 :: .int 0 :: .ref a22 :: .ref a23 :: .ref a24 :: .ref a25 :: .ref a26 :: .int (-1) :: .ref a27 :: .ref a28 :: .ref a29 :: .ref a30 :: .ref a31 :: .ref a32 :: .ref a33 :: []), zb G a1 2000 g_3] _ _ := B
  refine lv_aload_n E.x E.b dX12_lays_20 rfl (lv_at hl 1 rfl) ?_
  refine lv_dup E.x E.b dX12_lays_21 rfl ?_
  refine z_get E B z_inX12 (ci := 10) rfl 2 (by decide) t_1194 0 rfl rfl dX12_lays_22 ?_
  refine lv_iconst (v := 1) E.x E.b dX12_lays_25 (by decide) ?_
  refine lv_iadd E.x E.b dX12_lays_26 (z_topi 1 (by decide +kernel) ?_)
  refine z_put E B z_inX12 tyX12 tyX12_ok nmX12 (ci := 10) rfl 2 (by decide) rfl (ty := .int) (by decide +kernel) t_1194 0 rfl (Nat.le_of_ble_eq_true rfl) rfl rfl dX12_lays_27 (fun H locs B => ?_)
  have B : zB G A s.heap [zo a0 10 (.int 0 :: .ref a1 :: .int 1 :: .ref a2 :: .int 0 :: .ref a3 :: .ref a4 :: .ref a5 :: .ref a6 :: .ref a7 :: .int 0 :: .int 0 :: .int 0 :: .int 0 :: .int 0 :: .int 0 :: .int (-1) :: .int 0 :: .ref a8 :: .int 0 :: .int 0 :: .ref a9 :: .int 0 :: .int 0 :: .ref a10 :: .int 0 :: .int 0 :: .ref a11 :: .ref a12 :: .ref a13 :: .ref a14 :: .int 0 :: .int 0 :: .ref a15 :: .ref a16 :: .ref a17 :: .ref a18 :: .ref a19 :: .int 0 :: .ref a20 :: .ref a21 :: .int 0 :: .int 0 :: .ref a22 :: .ref a23 :: .ref a24 :: .ref a25 :: .ref a26 :: .int (-1) :: .ref a27 :: .ref a28 :: .ref a29 :: .ref a30 :: .ref a31 :: .ref a32 :: .ref a33 :: []), zb G a1 2000 g_3] _ _ := B
  refine lv_iinc (v := 16) (lv' := [(2, .int 16), (0, .ref a0), (1, .int p0)]) E.x E.b dX12_lays_30 hl (k := 0) rfl (by decide +kernel) (by decide) rfl (fun ls hl => ?_)
  refine lv_goto (tgt := 3) E.x E.b dX12_lays_33 (by decide) ?_
  refine lv_iload_n E.x E.b dX12_lays_3 rfl (lv_at hl 0 rfl) ?_
  refine lv_if_lt (tgt := 36) E.x E.b dX12_lays_4 (by decide) (fun c => absurd c (by decide +kernel)) (fun _ => ?_)
  refine lv_aload_n E.x E.b dX12_lays_7 rfl (lv_at hl 1 rfl) ?_
  refine z_get E B z_inX12 (ci := 10) rfl 1 (by decide) t_1193 0 rfl rfl dX12_lays_8 ?_
  refine lv_aload_n E.x E.b dX12_lays_11 rfl (lv_at hl 1 rfl) ?_
  refine z_get E B z_inX12 (ci := 10) rfl 2 (by decide) t_1194 0 rfl rfl dX12_lays_12 ?_
  refine lv_iload_n E.x E.b dX12_lays_15 rfl (lv_at hl 2 rfl) ?_
  refine lv_iload_n E.x E.b dX12_lays_16 rfl (lv_at hl 0 rfl) ?_
  refine lv_ishr E.x E.b dX12_lays_17 ?_
  refine lv_topi (fun x_4 _ => ?_)
  refine lv_i2b (v := _) E.x E.b dX12_lays_18 rfl ?_
  refine lv_topi (fun x_5 _ => ?_)
  refine z_bast E B 1 rfl (show ¬ ((1 : Int32) < 0 ∨ 2000 ≤ (1 : Int32).toNatClampNeg) by decide +kernel) dX12_lays_19 (fun H locs g_6 B => ?_)
  have B : zB G A s.heap [zo a0 10 (.int 0 :: .ref a1 :: .int 1 :: .ref a2 :: .int 0 :: .ref a3 :: .ref a4 :: .ref a5 :: .ref a6 :: .ref a7 :: .int 0 :: .int 0 :: .int 0 :: .int 0 :: .int 0 :: .int 0 :: .int (-1) :: .int 0 :: .ref a8 :: .int 0 :: .int 0 :: .ref a9 :: .int 0 :: .int 0 :: .ref a10 :: .int 0 :: .int 0 :: .ref a11 :: .ref a12 :: .ref a13 :: .ref a14 :: .int 0 :: .int 0 :: .ref a15 :: .ref a16 :: .ref a17 :: .ref a18 :: .ref a19 :: .int 0 :: .ref a20 :: .ref a21 :: .int 0 :: .int 0 :: .ref a22 :: .ref a23 :: .ref a24 :: .ref a25 :: .ref a26 :: .int (-1) :: .ref a27 :: .ref a28 :: .ref a29 :: .ref a30 :: .ref a31 :: .ref a32 :: .ref a33 :: []), zb G a1 2000 g_6] _ _ := B
  refine lv_aload_n E.x E.b dX12_lays_20 rfl (lv_at hl 1 rfl) ?_
  refine lv_dup E.x E.b dX12_lays_21 rfl ?_
  refine z_get E B z_inX12 (ci := 10) rfl 2 (by decide) t_1194 0 rfl rfl dX12_lays_22 ?_
  refine lv_iconst (v := 1) E.x E.b dX12_lays_25 (by decide) ?_
  refine lv_iadd E.x E.b dX12_lays_26 (z_topi 2 (by decide +kernel) ?_)
  refine z_put E B z_inX12 tyX12 tyX12_ok nmX12 (ci := 10) rfl 2 (by decide) rfl (ty := .int) (by decide +kernel) t_1194 0 rfl (Nat.le_of_ble_eq_true rfl) rfl rfl dX12_lays_27 (fun H locs B => ?_)
  have B : zB G A s.heap [zo a0 10 (.int 0 :: .ref a1 :: .int 2 :: .ref a2 :: .int 0 :: .ref a3 :: .ref a4 :: .ref a5 :: .ref a6 :: .ref a7 :: .int 0 :: .int 0 :: .int 0 :: .int 0 :: .int 0 :: .int 0 :: .int (-1) :: .int 0 :: .ref a8 :: .int 0 :: .int 0 :: .ref a9 :: .int 0 :: .int 0 :: .ref a10 :: .int 0 :: .int 0 :: .ref a11 :: .ref a12 :: .ref a13 :: .ref a14 :: .int 0 :: .int 0 :: .ref a15 :: .ref a16 :: .ref a17 :: .ref a18 :: .ref a19 :: .int 0 :: .ref a20 :: .ref a21 :: .int 0 :: .int 0 :: .ref a22 :: .ref a23 :: .ref a24 :: .ref a25 :: .ref a26 :: .int (-1) :: .ref a27 :: .ref a28 :: .ref a29 :: .ref a30 :: .ref a31 :: .ref a32 :: .ref a33 :: []), zb G a1 2000 g_6] _ _ := B
  refine lv_iinc (v := 8) (lv' := [(2, .int 8), (0, .ref a0), (1, .int p0)]) E.x E.b dX12_lays_30 hl (k := 0) rfl (by decide +kernel) (by decide) rfl (fun ls hl => ?_)
  refine lv_goto (tgt := 3) E.x E.b dX12_lays_33 (by decide) ?_
  refine lv_iload_n E.x E.b dX12_lays_3 rfl (lv_at hl 0 rfl) ?_
  refine lv_if_lt (tgt := 36) E.x E.b dX12_lays_4 (by decide) (fun c => absurd c (by decide +kernel)) (fun _ => ?_)
  refine lv_aload_n E.x E.b dX12_lays_7 rfl (lv_at hl 1 rfl) ?_
  refine z_get E B z_inX12 (ci := 10) rfl 1 (by decide) t_1193 0 rfl rfl dX12_lays_8 ?_
  refine lv_aload_n E.x E.b dX12_lays_11 rfl (lv_at hl 1 rfl) ?_
  refine z_get E B z_inX12 (ci := 10) rfl 2 (by decide) t_1194 0 rfl rfl dX12_lays_12 ?_
  refine lv_iload_n E.x E.b dX12_lays_15 rfl (lv_at hl 2 rfl) ?_
  refine lv_iload_n E.x E.b dX12_lays_16 rfl (lv_at hl 0 rfl) ?_
  refine lv_ishr E.x E.b dX12_lays_17 ?_
  refine lv_topi (fun x_7 _ => ?_)
  refine lv_i2b (v := _) E.x E.b dX12_lays_18 rfl ?_
  refine lv_topi (fun x_8 _ => ?_)
  refine z_bast E B 1 rfl (show ¬ ((2 : Int32) < 0 ∨ 2000 ≤ (2 : Int32).toNatClampNeg) by decide +kernel) dX12_lays_19 (fun H locs g_9 B => ?_)
  have B : zB G A s.heap [zo a0 10 (.int 0 :: .ref a1 :: .int 2 :: .ref a2 :: .int 0 :: .ref a3 :: .ref a4 :: .ref a5 :: .ref a6 :: .ref a7 :: .int 0 :: .int 0 :: .int 0 :: .int 0 :: .int 0 :: .int 0 :: .int (-1) :: .int 0 :: .ref a8 :: .int 0 :: .int 0 :: .ref a9 :: .int 0 :: .int 0 :: .ref a10 :: .int 0 :: .int 0 :: .ref a11 :: .ref a12 :: .ref a13 :: .ref a14 :: .int 0 :: .int 0 :: .ref a15 :: .ref a16 :: .ref a17 :: .ref a18 :: .ref a19 :: .int 0 :: .ref a20 :: .ref a21 :: .int 0 :: .int 0 :: .ref a22 :: .ref a23 :: .ref a24 :: .ref a25 :: .ref a26 :: .int (-1) :: .ref a27 :: .ref a28 :: .ref a29 :: .ref a30 :: .ref a31 :: .ref a32 :: .ref a33 :: []), zb G a1 2000 g_9] _ _ := B
  refine lv_aload_n E.x E.b dX12_lays_20 rfl (lv_at hl 1 rfl) ?_
  refine lv_dup E.x E.b dX12_lays_21 rfl ?_
  refine z_get E B z_inX12 (ci := 10) rfl 2 (by decide) t_1194 0 rfl rfl dX12_lays_22 ?_
  refine lv_iconst (v := 1) E.x E.b dX12_lays_25 (by decide) ?_
  refine lv_iadd E.x E.b dX12_lays_26 (z_topi 3 (by decide +kernel) ?_)
  refine z_put E B z_inX12 tyX12 tyX12_ok nmX12 (ci := 10) rfl 2 (by decide) rfl (ty := .int) (by decide +kernel) t_1194 0 rfl (Nat.le_of_ble_eq_true rfl) rfl rfl dX12_lays_27 (fun H locs B => ?_)
  have B : zB G A s.heap [zo a0 10 (.int 0 :: .ref a1 :: .int 3 :: .ref a2 :: .int 0 :: .ref a3 :: .ref a4 :: .ref a5 :: .ref a6 :: .ref a7 :: .int 0 :: .int 0 :: .int 0 :: .int 0 :: .int 0 :: .int 0 :: .int (-1) :: .int 0 :: .ref a8 :: .int 0 :: .int 0 :: .ref a9 :: .int 0 :: .int 0 :: .ref a10 :: .int 0 :: .int 0 :: .ref a11 :: .ref a12 :: .ref a13 :: .ref a14 :: .int 0 :: .int 0 :: .ref a15 :: .ref a16 :: .ref a17 :: .ref a18 :: .ref a19 :: .int 0 :: .ref a20 :: .ref a21 :: .int 0 :: .int 0 :: .ref a22 :: .ref a23 :: .ref a24 :: .ref a25 :: .ref a26 :: .int (-1) :: .ref a27 :: .ref a28 :: .ref a29 :: .ref a30 :: .ref a31 :: .ref a32 :: .ref a33 :: []), zb G a1 2000 g_9] _ _ := B
  refine lv_iinc (v := 0) (lv' := [(2, .int 0), (0, .ref a0), (1, .int p0)]) E.x E.b dX12_lays_30 hl (k := 0) rfl (by decide +kernel) (by decide) rfl (fun ls hl => ?_)
  refine lv_goto (tgt := 3) E.x E.b dX12_lays_33 (by decide) ?_
  refine lv_iload_n E.x E.b dX12_lays_3 rfl (lv_at hl 0 rfl) ?_
  refine lv_if_lt (tgt := 36) E.x E.b dX12_lays_4 (by decide) (fun c => absurd c (by decide +kernel)) (fun _ => ?_)
  refine lv_aload_n E.x E.b dX12_lays_7 rfl (lv_at hl 1 rfl) ?_
  refine z_get E B z_inX12 (ci := 10) rfl 1 (by decide) t_1193 0 rfl rfl dX12_lays_8 ?_
  refine lv_aload_n E.x E.b dX12_lays_11 rfl (lv_at hl 1 rfl) ?_
  refine z_get E B z_inX12 (ci := 10) rfl 2 (by decide) t_1194 0 rfl rfl dX12_lays_12 ?_
  refine lv_iload_n E.x E.b dX12_lays_15 rfl (lv_at hl 2 rfl) ?_
  refine lv_iload_n E.x E.b dX12_lays_16 rfl (lv_at hl 0 rfl) ?_
  refine lv_ishr E.x E.b dX12_lays_17 ?_
  refine lv_topi (fun x_10 _ => ?_)
  refine lv_i2b (v := _) E.x E.b dX12_lays_18 rfl ?_
  refine lv_topi (fun x_11 _ => ?_)
  refine z_bast E B 1 rfl (show ¬ ((3 : Int32) < 0 ∨ 2000 ≤ (3 : Int32).toNatClampNeg) by decide +kernel) dX12_lays_19 (fun H locs g_12 B => ?_)
  have B : zB G A s.heap [zo a0 10 (.int 0 :: .ref a1 :: .int 3 :: .ref a2 :: .int 0 :: .ref a3 :: .ref a4 :: .ref a5 :: .ref a6 :: .ref a7 :: .int 0 :: .int 0 :: .int 0 :: .int 0 :: .int 0 :: .int 0 :: .int (-1) :: .int 0 :: .ref a8 :: .int 0 :: .int 0 :: .ref a9 :: .int 0 :: .int 0 :: .ref a10 :: .int 0 :: .int 0 :: .ref a11 :: .ref a12 :: .ref a13 :: .ref a14 :: .int 0 :: .int 0 :: .ref a15 :: .ref a16 :: .ref a17 :: .ref a18 :: .ref a19 :: .int 0 :: .ref a20 :: .ref a21 :: .int 0 :: .int 0 :: .ref a22 :: .ref a23 :: .ref a24 :: .ref a25 :: .ref a26 :: .int (-1) :: .ref a27 :: .ref a28 :: .ref a29 :: .ref a30 :: .ref a31 :: .ref a32 :: .ref a33 :: []), zb G a1 2000 g_12] _ _ := B
  refine lv_aload_n E.x E.b dX12_lays_20 rfl (lv_at hl 1 rfl) ?_
  refine lv_dup E.x E.b dX12_lays_21 rfl ?_
  refine z_get E B z_inX12 (ci := 10) rfl 2 (by decide) t_1194 0 rfl rfl dX12_lays_22 ?_
  refine lv_iconst (v := 1) E.x E.b dX12_lays_25 (by decide) ?_
  refine lv_iadd E.x E.b dX12_lays_26 (z_topi 4 (by decide +kernel) ?_)
  refine z_put E B z_inX12 tyX12 tyX12_ok nmX12 (ci := 10) rfl 2 (by decide) rfl (ty := .int) (by decide +kernel) t_1194 0 rfl (Nat.le_of_ble_eq_true rfl) rfl rfl dX12_lays_27 (fun H locs B => ?_)
  have B : zB G A s.heap [zo a0 10 (.int 0 :: .ref a1 :: .int 4 :: .ref a2 :: .int 0 :: .ref a3 :: .ref a4 :: .ref a5 :: .ref a6 :: .ref a7 :: .int 0 :: .int 0 :: .int 0 :: .int 0 :: .int 0 :: .int 0 :: .int (-1) :: .int 0 :: .ref a8 :: .int 0 :: .int 0 :: .ref a9 :: .int 0 :: .int 0 :: .ref a10 :: .int 0 :: .int 0 :: .ref a11 :: .ref a12 :: .ref a13 :: .ref a14 :: .int 0 :: .int 0 :: .ref a15 :: .ref a16 :: .ref a17 :: .ref a18 :: .ref a19 :: .int 0 :: .ref a20 :: .ref a21 :: .int 0 :: .int 0 :: .ref a22 :: .ref a23 :: .ref a24 :: .ref a25 :: .ref a26 :: .int (-1) :: .ref a27 :: .ref a28 :: .ref a29 :: .ref a30 :: .ref a31 :: .ref a32 :: .ref a33 :: []), zb G a1 2000 g_12] _ _ := B
  refine lv_iinc (v := (-8)) (lv' := [(2, .int (-8)), (0, .ref a0), (1, .int p0)]) E.x E.b dX12_lays_30 hl (k := 0) rfl (by decide +kernel) (by decide) rfl (fun ls hl => ?_)
  refine lv_goto (tgt := 3) E.x E.b dX12_lays_33 (by decide) ?_
  refine lv_iload_n E.x E.b dX12_lays_3 rfl (lv_at hl 0 rfl) ?_
  refine lv_if_lt (tgt := 36) E.x E.b dX12_lays_4 (by decide) (fun _ => ?_) (fun c => absurd (by decide +kernel) c)
  refine W.widen (k := 0) (n := 0) (Nat.le_of_ble_eq_true rfl) (Nat.le_of_ble_eq_true rfl) ?_
  exact z_vret E hr hlocks B trivial (fun t ht => ⟨_, z_q B [0, 1] (by decide) rfl ht⟩) dX12_lays_36
