set_option maxHeartbeats 4000000 in
set_option maxRecDepth 100000 in
theorem c_X5_check_50 (l : Launch) (G : zGT) (sz : Nat) (a0 a1 a2 a3 a4 a5 a6 : Nat) : Met l yX5_check (.code yX5_check cX5_check 5 (some .int) :: zT) ({ frames := 1, cells := 0, slots := 0, locals := 86 }) (va_Pc [.ref a0, .ref a1] (zPc G [zo a0 4 [.int 0, .int 0, .ref a2], zo a1 6 [.ref a3, .ref a4, .ref a5, .ref a6, .int 0, .int 0, .int 1, .int 0, .int 0, .long 0]] sz)) ((fun A => va_Qi (fun (r : Int32) (_ : Unit) => r = 0) (fun (_ : Unit) t => zQ G [zo a0 4 [.int (-1), .int 0, .ref a2], zo a1 6 [.ref a3, .ref a4, .ref a5, .ref a6, .int 0, .int 0, .int 1, .int 0, .int 0, .long 0]] A t) A) (va_A [zo a0 4 [.int 0, .int 0, .ref a2], zo a1 6 [.ref a3, .ref a4, .ref a5, .ref a6, .int 0, .int 0, .int 1, .int 0, .int 0, .long 0]] sz)) 0 0 (va_A [zo a0 4 [.int 0, .int 0, .ref a2], zo a1 6 [.ref a3, .ref a4, .ref a5, .ref a6, .int 0, .int 0, .int 1, .int 0, .int 0, .long 0]] sz) := by
  refine z_start (y := yX5_check) (bytes := cX5_check) (maxL := 5) (ret := (some .int)) (av := [.ref a0, .ref a1]) (QA := (fun A => va_Qi (fun (r : Int32) (_ : Unit) => r = 0) (fun (_ : Unit) t => zQ G [zo a0 4 [.int (-1), .int 0, .ref a2], zo a1 6 [.ref a3, .ref a4, .ref a5, .ref a6, .int 0, .int 0, .int 1, .int 0, .int 0, .long 0]] A t) A)) (by decide) ⟨Nat.le_of_ble_eq_true rfl, trivial⟩ ?_
  intro p e s m below meth c A ls E B hr hlocks hin hl
  have hl : lv_has ls 5 [(0, .ref a0), (1, .ref a1)] := hl
  have B : zB G A s.heap [zo a0 4 [.int 0, .int 0, .ref a2], zo a1 6 [.ref a3, .ref a4, .ref a5, .ref a6, .int 0, .int 0, .int 1, .int 0, .int 0, .long 0]] s.heap [] := B
  refine lv_aload_n E.x E.b dX5_check_0 rfl (lv_at hl 0 rfl) ?_
  refine lv_iconst (v := (-1)) E.x E.b dX5_check_1 (by decide) ?_
  refine z_put E B z_inX5 tyX5 tyX5_ok nmX5 (ci := 4) rfl 0 (by decide) rfl (ty := .int) (by decide +kernel) t_227 0 rfl (Nat.le_of_ble_eq_true rfl) rfl rfl dX5_check_2 (fun H locs B => ?_)
  have B : zB G A s.heap [zo a0 4 [.int (-1), .int 0, .ref a2], zo a1 6 [.ref a3, .ref a4, .ref a5, .ref a6, .int 0, .int 0, .int 1, .int 0, .int 0, .long 0]] _ _ := B
  refine lv_aload_n E.x E.b dX5_check_5 rfl (lv_at hl 0 rfl) ?_
  refine lv_aload_n E.x E.b dX5_check_6 rfl (lv_at hl 1 rfl) ?_
  refine z_callv E B (wc := [zo a0 4 [.int (-1), .int 0, .ref a2], zo a1 6 [.ref a3, .ref a4, .ref a5, .ref a6, .int 0, .int 0, .int 1, .int 0, .int 0, .long 0]]) (wr := []) [0, 1] [] rfl rfl (by decide) (by decide) (z_runV E B (As := [.ref a1]) (rest := []) [0, 1] rfl (by decide) mv_X5_collectNames t_578 0 (ci := 4) rfl rfl rfl (c_X5_collectNames_49 l G _ a0 a1 a2 a3 a4 a5 a6) rfl rfl ⟨Nat.le_of_ble_eq_true rfl, Nat.le_of_ble_eq_true rfl⟩ rfl hl.1 rfl (Nat.le_of_ble_eq_true rfl) dX5_check_7 ⟨(Nat.le_of_ble_eq_true rfl), (Nat.le_of_ble_eq_true rfl)⟩) (fun  t H locs hp hB J => ?_)
  have hq := hB
  have B := J _ hq
  have B : zB G A s.heap [zo a0 4 [.int (-1), .int 0, .ref a2], zo a1 6 [.ref a3, .ref a4, .ref a5, .ref a6, .int 0, .int 0, .int 1, .int 0, .int 0, .long 0]] _ _ := B
  refine lv_iconst (v := 0) E.x E.b dX5_check_10 (by decide) ?_
  refine lv_istore_n (lv' := [(2, .int 0), (0, .ref a0), (1, .ref a1)]) E.x E.b dX5_check_11 rfl hl (by decide) rfl (fun ls hl => ?_)
  refine lv_iconst (v := 0) E.x E.b dX5_check_12 (by decide) ?_
  refine lv_istore_n (lv' := [(3, .int 0), (2, .int 0), (0, .ref a0), (1, .ref a1)]) E.x E.b dX5_check_13 rfl hl (by decide) rfl (fun ls hl => ?_)
  refine lv_iload_n E.x E.b dX5_check_14 rfl (lv_at hl 0 rfl) ?_
  refine lv_aload_n E.x E.b dX5_check_15 rfl (lv_at hl 3 rfl) ?_
  refine z_get E B z_inX8 (ci := 6) rfl 5 (by decide) t_163 1 rfl rfl dX5_check_16 ?_
  refine lv_icmp_ge (tgt := 68) E.x E.b dX5_check_19 (by decide) (fun _ => ?_) (fun c => absurd (by decide +kernel) c)
  refine lv_iconst (v := 0) E.x E.b dX5_check_68 (by decide) ?_
  refine W.widen (k := 0) (n := 0) (Nat.le_of_ble_eq_true rfl) (Nat.le_of_ble_eq_true rfl) ?_
  exact z_iret E hr hlocks B (v := 0) rfl (fun t ht => z_q B [0, 1] (by decide) rfl ht) dX5_check_69
set_option maxHeartbeats 4000000 in
set_option maxRecDepth 100000 in
theorem c_X5_tellGates_51 (l : Launch) (G : zGT) (sz : Nat) (a0 a1 a2 a3 a4 a5 a6 a7 a8 : Nat) : Met l yX5_tellGates (.code yX5_tellGates cX5_tellGates 4 none :: zT) ({ frames := 0, cells := 0, slots := 0, locals := 64 }) (va_Pc [.ref a0, .ref a1, .ref a2] (zPc G [zo a0 4 [.int (-1), .int 0, .ref a3], zo a2 0 [.ref a4, .int 0], zo a1 6 [.ref a5, .ref a6, .ref a7, .ref a8, .int 0, .int 0, .int 1, .int 0, .int 0, .long 0]] sz)) ((fun A => va_Qv (fun (_ : Unit) => True) (fun (_ : Unit) t => zQ G [zo a0 4 [.int (-1), .int 0, .ref a3], zo a2 0 [.ref a4, .int 0], zo a1 6 [.ref a5, .ref a6, .ref a7, .ref a8, .int 0, .int 0, .int 1, .int 0, .int 0, .long 0]] A t) A) (va_A [zo a0 4 [.int (-1), .int 0, .ref a3], zo a2 0 [.ref a4, .int 0], zo a1 6 [.ref a5, .ref a6, .ref a7, .ref a8, .int 0, .int 0, .int 1, .int 0, .int 0, .long 0]] sz)) 0 0 (va_A [zo a0 4 [.int (-1), .int 0, .ref a3], zo a2 0 [.ref a4, .int 0], zo a1 6 [.ref a5, .ref a6, .ref a7, .ref a8, .int 0, .int 0, .int 1, .int 0, .int 0, .long 0]] sz) := by
  refine z_start (y := yX5_tellGates) (bytes := cX5_tellGates) (maxL := 4) (ret := none) (av := [.ref a0, .ref a1, .ref a2]) (QA := (fun A => va_Qv (fun (_ : Unit) => True) (fun (_ : Unit) t => zQ G [zo a0 4 [.int (-1), .int 0, .ref a3], zo a2 0 [.ref a4, .int 0], zo a1 6 [.ref a5, .ref a6, .ref a7, .ref a8, .int 0, .int 0, .int 1, .int 0, .int 0, .long 0]] A t) A)) (by decide) ⟨Nat.le_of_ble_eq_true rfl, trivial⟩ ?_
  intro p e s m below meth c A ls E B hr hlocks hin hl
  have hl : lv_has ls 4 [(0, .ref a0), (1, .ref a1), (2, .ref a2)] := hl
  have B : zB G A s.heap [zo a0 4 [.int (-1), .int 0, .ref a3], zo a2 0 [.ref a4, .int 0], zo a1 6 [.ref a5, .ref a6, .ref a7, .ref a8, .int 0, .int 0, .int 1, .int 0, .int 0, .long 0]] s.heap [] := B
  refine lv_aload_n E.x E.b dX5_tellGates_0 rfl (lv_at hl 2 rfl) ?_
  refine lv_iconst (v := 0) E.x E.b dX5_tellGates_1 (by decide) ?_
  refine z_put E B z_inX0 tyX0 tyX0_ok nmX0 (ci := 0) rfl 1 (by decide) rfl (ty := .int) (by decide +kernel) t_254 1 rfl (Nat.le_of_ble_eq_true rfl) rfl rfl dX5_tellGates_2 (fun H locs B => ?_)
  have B : zB G A s.heap [zo a0 4 [.int (-1), .int 0, .ref a3], zo a2 0 [.ref a4, .int 0], zo a1 6 [.ref a5, .ref a6, .ref a7, .ref a8, .int 0, .int 0, .int 1, .int 0, .int 0, .long 0]] _ _ := B
  refine lv_iconst (v := 0) E.x E.b dX5_tellGates_5 (by decide) ?_
  refine lv_istore_n (lv' := [(3, .int 0), (0, .ref a0), (1, .ref a1), (2, .ref a2)]) E.x E.b dX5_tellGates_6 rfl hl (by decide) rfl (fun ls hl => ?_)
  refine lv_iload_n E.x E.b dX5_tellGates_7 rfl (lv_at hl 0 rfl) ?_
  refine lv_aload_n E.x E.b dX5_tellGates_8 rfl (lv_at hl 2 rfl) ?_
  refine z_get E B z_inX8 (ci := 6) rfl 5 (by decide) t_163 2 rfl rfl dX5_tellGates_9 ?_
  refine lv_icmp_ge (tgt := 40) E.x E.b dX5_tellGates_12 (by decide) (fun _ => ?_) (fun c => absurd (by decide +kernel) c)
  refine W.widen (k := 0) (n := 0) (Nat.le_of_ble_eq_true rfl) (Nat.le_of_ble_eq_true rfl) ?_
  exact z_vret E hr hlocks B trivial (fun t ht => z_q B [0, 1, 2] (by decide) rfl ht) dX5_tellGates_40
set_option maxHeartbeats 4000000 in
set_option maxRecDepth 100000 in
theorem c_X5_tellPrices_52 (l : Launch) (G : zGT) (sz : Nat) (a0 a1 a2 a3 a4 a5 a6 a7 : Nat) : Met l yX5_tellPrices (.code yX5_tellPrices cX5_tellPrices 5 none :: zT) ({ frames := 0, cells := 0, slots := 0, locals := 64 }) (va_Pc [.ref a0, .ref a1, .ref a2] (zPc G [zo a0 4 [.int (-1), .int 0, .ref a3], zo a1 6 [.ref a4, .ref a5, .ref a6, .ref a7, .int 0, .int 0, .int 1, .int 0, .int 0, .long 0]] sz)) ((fun A => va_Qv (fun (_ : Unit) => True) (fun (_ : Unit) t => zQ G [zo a0 4 [.int (-1), .int 0, .ref a3], zo a1 6 [.ref a4, .ref a5, .ref a6, .ref a7, .int 0, .int 0, .int 1, .int 0, .int 0, .long 0]] A t) A) (va_A [zo a0 4 [.int (-1), .int 0, .ref a3], zo a1 6 [.ref a4, .ref a5, .ref a6, .ref a7, .int 0, .int 0, .int 1, .int 0, .int 0, .long 0]] sz)) 0 0 (va_A [zo a0 4 [.int (-1), .int 0, .ref a3], zo a1 6 [.ref a4, .ref a5, .ref a6, .ref a7, .int 0, .int 0, .int 1, .int 0, .int 0, .long 0]] sz) := by
  refine z_start (y := yX5_tellPrices) (bytes := cX5_tellPrices) (maxL := 5) (ret := none) (av := [.ref a0, .ref a1, .ref a2]) (QA := (fun A => va_Qv (fun (_ : Unit) => True) (fun (_ : Unit) t => zQ G [zo a0 4 [.int (-1), .int 0, .ref a3], zo a1 6 [.ref a4, .ref a5, .ref a6, .ref a7, .int 0, .int 0, .int 1, .int 0, .int 0, .long 0]] A t) A)) (by decide) ⟨Nat.le_of_ble_eq_true rfl, trivial⟩ ?_
  intro p e s m below meth c A ls E B hr hlocks hin hl
  have hl : lv_has ls 5 [(0, .ref a0), (1, .ref a1), (2, .ref a2)] := hl
  have B : zB G A s.heap [zo a0 4 [.int (-1), .int 0, .ref a3], zo a1 6 [.ref a4, .ref a5, .ref a6, .ref a7, .int 0, .int 0, .int 1, .int 0, .int 0, .long 0]] s.heap [] := B
  refine lv_iconst (v := 0) E.x E.b dX5_tellPrices_0 (by decide) ?_
  refine lv_istore_n (lv' := [(3, .int 0), (0, .ref a0), (1, .ref a1), (2, .ref a2)]) E.x E.b dX5_tellPrices_1 rfl hl (by decide) rfl (fun ls hl => ?_)
  refine lv_iload_n E.x E.b dX5_tellPrices_2 rfl (lv_at hl 0 rfl) ?_
  refine lv_aload_n E.x E.b dX5_tellPrices_3 rfl (lv_at hl 2 rfl) ?_
  refine z_get E B z_inX8 (ci := 6) rfl 5 (by decide) t_163 1 rfl rfl dX5_tellPrices_4 ?_
  refine lv_icmp_ge (tgt := 56) E.x E.b dX5_tellPrices_7 (by decide) (fun _ => ?_) (fun c => absurd (by decide +kernel) c)
  refine W.widen (k := 0) (n := 0) (Nat.le_of_ble_eq_true rfl) (Nat.le_of_ble_eq_true rfl) ?_
  exact z_vret E hr hlocks B trivial (fun t ht => z_q B [0, 1] (by decide) rfl ht) dX5_tellPrices_56
set_option maxHeartbeats 4000000 in
set_option maxRecDepth 100000 in
theorem c_X5_tellTable_53 (l : Launch) (G : zGT) (sz : Nat) (a0 a1 a2 a3 a4 a5 a6 a7 a8 : Nat) : Met l yX5_tellTable (.code yX5_tellTable cX5_tellTable 5 none :: zT) ({ frames := 0, cells := 0, slots := 0, locals := 64 }) (va_Pc [.ref a0, .ref a1, .ref a2] (zPc G [zo a0 4 [.int (-1), .int 0, .ref a3], zo a2 8 [.int 0, .int 0, .int 0, .int 0, .int 0, .int 0, .ref a4], zo a1 6 [.ref a5, .ref a6, .ref a7, .ref a8, .int 0, .int 0, .int 1, .int 0, .int 0, .long 0]] sz)) ((fun A => va_Qv (fun (_ : Unit) => True) (fun (_ : Unit) t => zQ G [zo a0 4 [.int (-1), .int 0, .ref a3], zo a2 8 [.int 0, .int 0, .int 0, .int 0, .int 0, .int 0, .ref a4], zo a1 6 [.ref a5, .ref a6, .ref a7, .ref a8, .int 0, .int 0, .int 1, .int 0, .int 0, .long 0]] A t) A) (va_A [zo a0 4 [.int (-1), .int 0, .ref a3], zo a2 8 [.int 0, .int 0, .int 0, .int 0, .int 0, .int 0, .ref a4], zo a1 6 [.ref a5, .ref a6, .ref a7, .ref a8, .int 0, .int 0, .int 1, .int 0, .int 0, .long 0]] sz)) 0 0 (va_A [zo a0 4 [.int (-1), .int 0, .ref a3], zo a2 8 [.int 0, .int 0, .int 0, .int 0, .int 0, .int 0, .ref a4], zo a1 6 [.ref a5, .ref a6, .ref a7, .ref a8, .int 0, .int 0, .int 1, .int 0, .int 0, .long 0]] sz) := by
  refine z_start (y := yX5_tellTable) (bytes := cX5_tellTable) (maxL := 5) (ret := none) (av := [.ref a0, .ref a1, .ref a2]) (QA := (fun A => va_Qv (fun (_ : Unit) => True) (fun (_ : Unit) t => zQ G [zo a0 4 [.int (-1), .int 0, .ref a3], zo a2 8 [.int 0, .int 0, .int 0, .int 0, .int 0, .int 0, .ref a4], zo a1 6 [.ref a5, .ref a6, .ref a7, .ref a8, .int 0, .int 0, .int 1, .int 0, .int 0, .long 0]] A t) A)) (by decide) ⟨Nat.le_of_ble_eq_true rfl, trivial⟩ ?_
  intro p e s m below meth c A ls E B hr hlocks hin hl
  have hl : lv_has ls 5 [(0, .ref a0), (1, .ref a1), (2, .ref a2)] := hl
  have B : zB G A s.heap [zo a0 4 [.int (-1), .int 0, .ref a3], zo a2 8 [.int 0, .int 0, .int 0, .int 0, .int 0, .int 0, .ref a4], zo a1 6 [.ref a5, .ref a6, .ref a7, .ref a8, .int 0, .int 0, .int 1, .int 0, .int 0, .long 0]] s.heap [] := B
  refine lv_aload_n E.x E.b dX5_tellTable_0 rfl (lv_at hl 2 rfl) ?_
  refine lv_iconst (v := 0) E.x E.b dX5_tellTable_1 (by decide) ?_
  refine z_put E B z_inX10 tyX10 tyX10_ok nmX10 (ci := 8) rfl 0 (by decide) rfl (ty := .boolean) (by decide +kernel) t_329 1 rfl (Nat.le_of_ble_eq_true rfl) rfl rfl dX5_tellTable_2 (fun H locs B => ?_)
  have B : zB G A s.heap [zo a0 4 [.int (-1), .int 0, .ref a3], zo a2 8 [.int 0, .int 0, .int 0, .int 0, .int 0, .int 0, .ref a4], zo a1 6 [.ref a5, .ref a6, .ref a7, .ref a8, .int 0, .int 0, .int 1, .int 0, .int 0, .long 0]] _ _ := B
  refine lv_iconst (v := 0) E.x E.b dX5_tellTable_5 (by decide) ?_
  refine lv_istore_n (lv' := [(3, .int 0), (0, .ref a0), (1, .ref a1), (2, .ref a2)]) E.x E.b dX5_tellTable_6 rfl hl (by decide) rfl (fun ls hl => ?_)
  refine lv_iload_n E.x E.b dX5_tellTable_7 rfl (lv_at hl 0 rfl) ?_
  refine lv_aload_n E.x E.b dX5_tellTable_8 rfl (lv_at hl 2 rfl) ?_
  refine z_get E B z_inX8 (ci := 6) rfl 5 (by decide) t_163 2 rfl rfl dX5_tellTable_9 ?_
  refine lv_icmp_ge (tgt := 106) E.x E.b dX5_tellTable_12 (by decide) (fun _ => ?_) (fun c => absurd (by decide +kernel) c)
  refine W.widen (k := 0) (n := 0) (Nat.le_of_ble_eq_true rfl) (Nat.le_of_ble_eq_true rfl) ?_
  exact z_vret E hr hlocks B trivial (fun t ht => z_q B [0, 1, 2] (by decide) rfl ht) dX5_tellTable_106
set_option maxHeartbeats 4000000 in
set_option maxRecDepth 100000 in
theorem c_X4_clear_54 (l : Launch) (G : zGT) (sz : Nat) (a0 a1 : Nat) : Met l yX4_clear (.code yX4_clear cX4_clear 1 none :: zT) ({ frames := 0, cells := 0, slots := 0, locals := 64 }) (va_Pc [.ref a0] (zPc G [zo a0 3 [.ref a1, .int 0, .int 0]] sz)) ((fun A => va_Qv (fun (_ : Unit) => True) (fun (_ : Unit) t => zQ G [zo a0 3 [.ref a1, .int 0, .int 0]] A t) A) (va_A [zo a0 3 [.ref a1, .int 0, .int 0]] sz)) 0 0 (va_A [zo a0 3 [.ref a1, .int 0, .int 0]] sz) := by
  refine z_start (y := yX4_clear) (bytes := cX4_clear) (maxL := 1) (ret := none) (av := [.ref a0]) (QA := (fun A => va_Qv (fun (_ : Unit) => True) (fun (_ : Unit) t => zQ G [zo a0 3 [.ref a1, .int 0, .int 0]] A t) A)) (by decide) ⟨Nat.le_of_ble_eq_true rfl, trivial⟩ ?_
  intro p e s m below meth c A ls E B hr hlocks hin hl
  have hl : lv_has ls 1 [(0, .ref a0)] := hl
  have B : zB G A s.heap [zo a0 3 [.ref a1, .int 0, .int 0]] s.heap [] := B
  refine lv_aload_n E.x E.b dX4_clear_0 rfl (lv_at hl 0 rfl) ?_
  refine lv_iconst (v := 0) E.x E.b dX4_clear_1 (by decide) ?_
  refine z_put E B z_inX4 tyX4 tyX4_ok nmX4 (ci := 3) rfl 2 (by decide) rfl (ty := .int) (by decide +kernel) t_271 0 rfl (Nat.le_of_ble_eq_true rfl) rfl rfl dX4_clear_2 (fun H locs B => ?_)
  have B : zB G A s.heap [zo a0 3 [.ref a1, .int 0, .int 0]] _ _ := B
  refine W.widen (k := 0) (n := 0) (Nat.le_of_ble_eq_true rfl) (Nat.le_of_ble_eq_true rfl) ?_
  exact z_vret E hr hlocks B trivial (fun t ht => z_q B [0] (by decide) rfl ht) dX4_clear_5
set_option maxHeartbeats 4000000 in
set_option maxRecDepth 100000 in
theorem c_X11_takeOver_55 (l : Launch) (G : zGT) (sz tp : Nat) (a0 a1 a2 a3 a4 a5 a6 a7 a8 a9 a10 a11 a12 a13 a14 a15 a16 a17 a18 a19 a20 a21 : Nat) : Met l yX11_takeOver (.code yX11_takeOver cX11_takeOver 2 none :: zT) ({ frames := 1, cells := 0, slots := 0, locals := 88 }) (va_Pc [.ref a0] (fun U => zPc G [zo a0 9 [.ref a3, .ref a8, .ref a1, .ref a2, .ref a9, .ref a10, .ref a7, .ref a6, .ref a11, .ref a12, .ref a5, .ref a4, .ref a13, .null, .int 0, .int (-1)], zo a1 4 [.int (-1), .int 0, .ref a14], zo a2 0 [.ref a15, .int 0], zo a3 6 [.ref a16, .ref a17, .ref a18, .ref a19, .int 0, .int 0, .int 1, .int 0, .int 0, .long 0], zi G a4 4 zPr, zo a5 8 [.int 0, .int 0, .int 0, .int 0, .int 0, .int 0, .ref a20], zo a6 3 [.ref a21, .int 0, .int 0], zz G a7 3 (fun _ => 0)] sz U ∧ zS G tp (va_A [zo a0 9 [.ref a3, .ref a8, .ref a1, .ref a2, .ref a9, .ref a10, .ref a7, .ref a6, .ref a11, .ref a12, .ref a5, .ref a4, .ref a13, .null, .int 0, .int (-1)], zo a1 4 [.int (-1), .int 0, .ref a14], zo a2 0 [.ref a15, .int 0], zo a3 6 [.ref a16, .ref a17, .ref a18, .ref a19, .int 0, .int 0, .int 1, .int 0, .int 0, .long 0], zi G a4 4 zPr, zo a5 8 [.int 0, .int 0, .int 0, .int 0, .int 0, .int 0, .ref a20], zo a6 3 [.ref a21, .int 0, .int 0], zz G a7 3 (fun _ => 0)] sz) U)) ((fun A => va_Qv (fun (_ : Unit) => True) (fun (_ : Unit) t => zQ G [zo a0 9 [.ref a3, .ref a8, .ref a1, .ref a2, .ref a9, .ref a10, .ref a7, .ref a6, .ref a11, .ref a12, .ref a5, .ref a4, .ref a13, .null, .int 0, .int (-1)], zo a1 4 [.int (-1), .int 0, .ref a14], zo a2 0 [.ref a15, .int 0], zo a3 6 [.ref a16, .ref a17, .ref a18, .ref a19, .int 0, .int 0, .int 1, .int 0, .int 0, .long 0], zi G a4 4 zPr, zo a5 8 [.int 0, .int 0, .int 0, .int 0, .int 0, .int 0, .ref a20], zo a6 3 [.ref a21, .int 0, .int 0], zz G a7 3 (fun _ => 0)] A t) A) (va_A [zo a0 9 [.ref a3, .ref a8, .ref a1, .ref a2, .ref a9, .ref a10, .ref a7, .ref a6, .ref a11, .ref a12, .ref a5, .ref a4, .ref a13, .null, .int 0, .int (-1)], zo a1 4 [.int (-1), .int 0, .ref a14], zo a2 0 [.ref a15, .int 0], zo a3 6 [.ref a16, .ref a17, .ref a18, .ref a19, .int 0, .int 0, .int 1, .int 0, .int 0, .long 0], zi G a4 4 zPr, zo a5 8 [.int 0, .int 0, .int 0, .int 0, .int 0, .int 0, .ref a20], zo a6 3 [.ref a21, .int 0, .int 0], zz G a7 3 (fun _ => 0)] sz)) 0 0 (va_A [zo a0 9 [.ref a3, .ref a8, .ref a1, .ref a2, .ref a9, .ref a10, .ref a7, .ref a6, .ref a11, .ref a12, .ref a5, .ref a4, .ref a13, .null, .int 0, .int (-1)], zo a1 4 [.int (-1), .int 0, .ref a14], zo a2 0 [.ref a15, .int 0], zo a3 6 [.ref a16, .ref a17, .ref a18, .ref a19, .int 0, .int 0, .int 1, .int 0, .int 0, .long 0], zi G a4 4 zPr, zo a5 8 [.int 0, .int 0, .int 0, .int 0, .int 0, .int 0, .ref a20], zo a6 3 [.ref a21, .int 0, .int 0], zz G a7 3 (fun _ => 0)] sz) := by
  refine z_startS (y := yX11_takeOver) (bytes := cX11_takeOver) (maxL := 2) (ret := none) (av := [.ref a0]) (QA := (fun A => va_Qv (fun (_ : Unit) => True) (fun (_ : Unit) t => zQ G [zo a0 9 [.ref a3, .ref a8, .ref a1, .ref a2, .ref a9, .ref a10, .ref a7, .ref a6, .ref a11, .ref a12, .ref a5, .ref a4, .ref a13, .null, .int 0, .int (-1)], zo a1 4 [.int (-1), .int 0, .ref a14], zo a2 0 [.ref a15, .int 0], zo a3 6 [.ref a16, .ref a17, .ref a18, .ref a19, .int 0, .int 0, .int 1, .int 0, .int 0, .long 0], zi G a4 4 zPr, zo a5 8 [.int 0, .int 0, .int 0, .int 0, .int 0, .int 0, .ref a20], zo a6 3 [.ref a21, .int 0, .int 0], zz G a7 3 (fun _ => 0)] A t) A)) (by decide) ⟨Nat.le_of_ble_eq_true rfl, trivial⟩ ?_
  intro p e s m below meth c A ls E hSs B hr hlocks hin hl
  have hl : lv_has ls 2 [(0, .ref a0)] := hl
  have B : zB G A s.heap [zo a0 9 [.ref a3, .ref a8, .ref a1, .ref a2, .ref a9, .ref a10, .ref a7, .ref a6, .ref a11, .ref a12, .ref a5, .ref a4, .ref a13, .null, .int 0, .int (-1)], zo a1 4 [.int (-1), .int 0, .ref a14], zo a2 0 [.ref a15, .int 0], zo a3 6 [.ref a16, .ref a17, .ref a18, .ref a19, .int 0, .int 0, .int 1, .int 0, .int 0, .long 0], zi G a4 4 zPr, zo a5 8 [.int 0, .int 0, .int 0, .int 0, .int 0, .int 0, .ref a20], zo a6 3 [.ref a21, .int 0, .int 0], zz G a7 3 (fun _ => 0)] s.heap [] := B
  refine lv_aload_n E.x E.b dX11_takeOver_0 rfl (lv_at hl 0 rfl) ?_
  refine lv_aload_n E.x E.b dX11_takeOver_1 rfl (lv_at hl 0 rfl) ?_
  refine z_get E B z_inX11 (ci := 9) rfl 2 (by decide) t_371 0 rfl rfl dX11_takeOver_2 ?_
  refine z_get E B z_inX5 (ci := 4) rfl 1 (by decide) t_230 1 rfl rfl dX11_takeOver_5 ?_
  refine z_put E B z_inX11 tyX11 tyX11_ok nmX11 (ci := 9) rfl 14 (by decide) rfl (ty := .int) (by decide +kernel) t_383 0 rfl (Nat.le_of_ble_eq_true rfl) rfl rfl dX11_takeOver_8 (fun H locs B => ?_)
  have B : zB G A s.heap [zo a0 9 [.ref a3, .ref a8, .ref a1, .ref a2, .ref a9, .ref a10, .ref a7, .ref a6, .ref a11, .ref a12, .ref a5, .ref a4, .ref a13, .null, .int 0, .int (-1)], zo a1 4 [.int (-1), .int 0, .ref a14], zo a2 0 [.ref a15, .int 0], zo a3 6 [.ref a16, .ref a17, .ref a18, .ref a19, .int 0, .int 0, .int 1, .int 0, .int 0, .long 0], zi G a4 4 zPr, zo a5 8 [.int 0, .int 0, .int 0, .int 0, .int 0, .int 0, .ref a20], zo a6 3 [.ref a21, .int 0, .int 0], zz G a7 3 (fun _ => 0)] _ _ := B
  refine lv_aload_n E.x E.b dX11_takeOver_11 rfl (lv_at hl 0 rfl) ?_
  refine z_get E B z_inX11 (ci := 9) rfl 2 (by decide) t_371 0 rfl rfl dX11_takeOver_12 ?_
  refine lv_aload_n E.x E.b dX11_takeOver_15 rfl (lv_at hl 0 rfl) ?_
  refine z_get E B z_inX11 (ci := 9) rfl 0 (by decide) t_369 0 rfl rfl dX11_takeOver_16 ?_
  refine lv_aload_n E.x E.b dX11_takeOver_19 rfl (lv_at hl 0 rfl) ?_
  refine z_get E B z_inX11 (ci := 9) rfl 3 (by decide) t_372 0 rfl rfl dX11_takeOver_20 ?_
  refine z_callv E B (wc := [zo a1 4 [.int (-1), .int 0, .ref a14], zo a2 0 [.ref a15, .int 0], zo a3 6 [.ref a16, .ref a17, .ref a18, .ref a19, .int 0, .int 0, .int 1, .int 0, .int 0, .long 0]]) (wr := [zo a0 9 [.ref a3, .ref a8, .ref a1, .ref a2, .ref a9, .ref a10, .ref a7, .ref a6, .ref a11, .ref a12, .ref a5, .ref a4, .ref a13, .null, .int 0, .int (-1)], zi G a4 4 zPr, zo a5 8 [.int 0, .int 0, .int 0, .int 0, .int 0, .int 0, .ref a20], zo a6 3 [.ref a21, .int 0, .int 0], zz G a7 3 (fun _ => 0)]) [1, 2, 3] [0, 4, 5, 6, 7] rfl rfl (by decide) (by decide) (z_runV E B (As := [.ref a3, .ref a2]) (rest := []) [1, 2, 3] rfl (by decide) mv_X5_tellGates t_628 0 (ci := 4) rfl rfl rfl (c_X5_tellGates_51 l G _ a1 a3 a2 a14 a15 a16 a17 a18 a19) rfl rfl ⟨Nat.le_of_ble_eq_true rfl, Nat.le_of_ble_eq_true rfl⟩ rfl hl.1 rfl (Nat.le_of_ble_eq_true rfl) dX11_takeOver_23 ⟨(Nat.le_of_ble_eq_true rfl), (Nat.le_of_ble_eq_true rfl)⟩) (fun  t H locs hp hB J => ?_)
  have hq := hB
  have B := J _ hq
  have B : zB G A s.heap [zo a0 9 [.ref a3, .ref a8, .ref a1, .ref a2, .ref a9, .ref a10, .ref a7, .ref a6, .ref a11, .ref a12, .ref a5, .ref a4, .ref a13, .null, .int 0, .int (-1)], zi G a4 4 zPr, zo a5 8 [.int 0, .int 0, .int 0, .int 0, .int 0, .int 0, .ref a20], zo a6 3 [.ref a21, .int 0, .int 0], zz G a7 3 (fun _ => 0), zo a1 4 [.int (-1), .int 0, .ref a14], zo a2 0 [.ref a15, .int 0], zo a3 6 [.ref a16, .ref a17, .ref a18, .ref a19, .int 0, .int 0, .int 1, .int 0, .int 0, .long 0]] _ _ := B
  refine va_gets E.x E.b hSs.1 B.2.2 E.ow (E.w t_360) (fun _ h => h) dX11_takeOver_26 ?_
  refine lv_iconst (v := 0) E.x E.b dX11_takeOver_29 (by decide) ?_
  refine lv_aload_n E.x E.b dX11_takeOver_30 rfl (lv_at hl 0 rfl) ?_
  refine z_get E B z_inX11 (ci := 9) rfl 11 (by decide) t_380 0 rfl rfl dX11_takeOver_31 ?_
  refine lv_iconst (v := 0) E.x E.b dX11_takeOver_34 (by decide) ?_
  refine lv_aload_n E.x E.b dX11_takeOver_35 rfl (lv_at hl 0 rfl) ?_
  refine z_get E B z_inX11 (ci := 9) rfl 11 (by decide) t_380 0 rfl rfl dX11_takeOver_36 ?_
  refine z_ilen E B 1 rfl (v := 4) (by decide +kernel) dX11_takeOver_39 ?_
  refine z_copyt E B (lv_sub hl [] rfl) hSs.2 1 rfl t_arrcopy_X11_125 t_acn t_acs t_aci (Nat.le_of_ble_eq_true rfl) (Nat.le_of_ble_eq_true rfl) dX11_takeOver_40 (fun H locs B => ?_)
  have B : zB G A s.heap [zo a0 9 [.ref a3, .ref a8, .ref a1, .ref a2, .ref a9, .ref a10, .ref a7, .ref a6, .ref a11, .ref a12, .ref a5, .ref a4, .ref a13, .null, .int 0, .int (-1)], zi G a4 4 zPr, zo a5 8 [.int 0, .int 0, .int 0, .int 0, .int 0, .int 0, .ref a20], zo a6 3 [.ref a21, .int 0, .int 0], zz G a7 3 (fun _ => 0), zo a1 4 [.int (-1), .int 0, .ref a14], zo a2 0 [.ref a15, .int 0], zo a3 6 [.ref a16, .ref a17, .ref a18, .ref a19, .int 0, .int 0, .int 1, .int 0, .int 0, .long 0]] _ _ := B
  refine lv_aload_n E.x E.b dX11_takeOver_43 rfl (lv_at hl 0 rfl) ?_
  refine z_get E B z_inX11 (ci := 9) rfl 2 (by decide) t_371 0 rfl rfl dX11_takeOver_44 ?_
  refine lv_aload_n E.x E.b dX11_takeOver_47 rfl (lv_at hl 0 rfl) ?_
  refine z_get E B z_inX11 (ci := 9) rfl 0 (by decide) t_369 0 rfl rfl dX11_takeOver_48 ?_
  refine lv_aload_n E.x E.b dX11_takeOver_51 rfl (lv_at hl 0 rfl) ?_
  refine z_get E B z_inX11 (ci := 9) rfl 11 (by decide) t_380 0 rfl rfl dX11_takeOver_52 ?_
  refine z_callv E B (wc := [zo a1 4 [.int (-1), .int 0, .ref a14], zo a3 6 [.ref a16, .ref a17, .ref a18, .ref a19, .int 0, .int 0, .int 1, .int 0, .int 0, .long 0]]) (wr := [zo a0 9 [.ref a3, .ref a8, .ref a1, .ref a2, .ref a9, .ref a10, .ref a7, .ref a6, .ref a11, .ref a12, .ref a5, .ref a4, .ref a13, .null, .int 0, .int (-1)], zi G a4 4 zPr, zo a5 8 [.int 0, .int 0, .int 0, .int 0, .int 0, .int 0, .ref a20], zo a6 3 [.ref a21, .int 0, .int 0], zz G a7 3 (fun _ => 0), zo a2 0 [.ref a15, .int 0]]) [5, 7] [0, 1, 2, 3, 4, 6] rfl rfl (by decide) (by decide) (z_runV E B (As := [.ref a3, .ref a4]) (rest := []) [5, 7] rfl (by decide) mv_X5_tellPrices t_650 0 (ci := 4) rfl rfl rfl (c_X5_tellPrices_52 l G _ a1 a3 a4 a14 a16 a17 a18 a19) rfl rfl ⟨Nat.le_of_ble_eq_true rfl, Nat.le_of_ble_eq_true rfl⟩ rfl hl.1 rfl (Nat.le_of_ble_eq_true rfl) dX11_takeOver_55 ⟨(Nat.le_of_ble_eq_true rfl), (Nat.le_of_ble_eq_true rfl)⟩) (fun  t H locs hp hB J => ?_)
  have hq := hB
  have B := J _ hq
  have B : zB G A s.heap [zo a0 9 [.ref a3, .ref a8, .ref a1, .ref a2, .ref a9, .ref a10, .ref a7, .ref a6, .ref a11, .ref a12, .ref a5, .ref a4, .ref a13, .null, .int 0, .int (-1)], zi G a4 4 zPr, zo a5 8 [.int 0, .int 0, .int 0, .int 0, .int 0, .int 0, .ref a20], zo a6 3 [.ref a21, .int 0, .int 0], zz G a7 3 (fun _ => 0), zo a2 0 [.ref a15, .int 0], zo a1 4 [.int (-1), .int 0, .ref a14], zo a3 6 [.ref a16, .ref a17, .ref a18, .ref a19, .int 0, .int 0, .int 1, .int 0, .int 0, .long 0]] _ _ := B
  refine lv_aload_n E.x E.b dX11_takeOver_58 rfl (lv_at hl 0 rfl) ?_
  refine z_get E B z_inX11 (ci := 9) rfl 2 (by decide) t_371 0 rfl rfl dX11_takeOver_59 ?_
  refine lv_aload_n E.x E.b dX11_takeOver_62 rfl (lv_at hl 0 rfl) ?_
  refine z_get E B z_inX11 (ci := 9) rfl 0 (by decide) t_369 0 rfl rfl dX11_takeOver_63 ?_
  refine lv_aload_n E.x E.b dX11_takeOver_66 rfl (lv_at hl 0 rfl) ?_
  refine z_get E B z_inX11 (ci := 9) rfl 10 (by decide) t_379 0 rfl rfl dX11_takeOver_67 ?_
  refine z_callv E B (wc := [zo a1 4 [.int (-1), .int 0, .ref a14], zo a5 8 [.int 0, .int 0, .int 0, .int 0, .int 0, .int 0, .ref a20], zo a3 6 [.ref a16, .ref a17, .ref a18, .ref a19, .int 0, .int 0, .int 1, .int 0, .int 0, .long 0]]) (wr := [zo a0 9 [.ref a3, .ref a8, .ref a1, .ref a2, .ref a9, .ref a10, .ref a7, .ref a6, .ref a11, .ref a12, .ref a5, .ref a4, .ref a13, .null, .int 0, .int (-1)], zi G a4 4 zPr, zo a6 3 [.ref a21, .int 0, .int 0], zz G a7 3 (fun _ => 0), zo a2 0 [.ref a15, .int 0]]) [6, 2, 7] [0, 1, 3, 4, 5] rfl rfl (by decide) (by decide) (z_runV E B (As := [.ref a3, .ref a5]) (rest := []) [6, 2, 7] rfl (by decide) mv_X5_tellTable t_654 0 (ci := 4) rfl rfl rfl (c_X5_tellTable_53 l G _ a1 a3 a5 a14 a20 a16 a17 a18 a19) rfl rfl ⟨Nat.le_of_ble_eq_true rfl, Nat.le_of_ble_eq_true rfl⟩ rfl hl.1 rfl (Nat.le_of_ble_eq_true rfl) dX11_takeOver_70 ⟨(Nat.le_of_ble_eq_true rfl), (Nat.le_of_ble_eq_true rfl)⟩) (fun  t H locs hp hB J => ?_)
  have hq := hB
  have B := J _ hq
  have B : zB G A s.heap [zo a0 9 [.ref a3, .ref a8, .ref a1, .ref a2, .ref a9, .ref a10, .ref a7, .ref a6, .ref a11, .ref a12, .ref a5, .ref a4, .ref a13, .null, .int 0, .int (-1)], zi G a4 4 zPr, zo a6 3 [.ref a21, .int 0, .int 0], zz G a7 3 (fun _ => 0), zo a2 0 [.ref a15, .int 0], zo a1 4 [.int (-1), .int 0, .ref a14], zo a5 8 [.int 0, .int 0, .int 0, .int 0, .int 0, .int 0, .ref a20], zo a3 6 [.ref a16, .ref a17, .ref a18, .ref a19, .int 0, .int 0, .int 1, .int 0, .int 0, .long 0]] _ _ := B
  refine lv_aload_n E.x E.b dX11_takeOver_73 rfl (lv_at hl 0 rfl) ?_
  refine z_get E B z_inX11 (ci := 9) rfl 7 (by decide) t_376 0 rfl rfl dX11_takeOver_74 ?_
  refine z_callv E B (wc := [zo a6 3 [.ref a21, .int 0, .int 0]]) (wr := [zo a0 9 [.ref a3, .ref a8, .ref a1, .ref a2, .ref a9, .ref a10, .ref a7, .ref a6, .ref a11, .ref a12, .ref a5, .ref a4, .ref a13, .null, .int 0, .int (-1)], zi G a4 4 zPr, zz G a7 3 (fun _ => 0), zo a2 0 [.ref a15, .int 0], zo a1 4 [.int (-1), .int 0, .ref a14], zo a5 8 [.int 0, .int 0, .int 0, .int 0, .int 0, .int 0, .ref a20], zo a3 6 [.ref a16, .ref a17, .ref a18, .ref a19, .int 0, .int 0, .int 1, .int 0, .int 0, .long 0]]) [2] [0, 1, 3, 4, 5, 6, 7] rfl rfl (by decide) (by decide) (z_runV E B (As := []) (rest := []) [2] rfl (by decide) mv_X4_clear t_667 0 (ci := 3) rfl rfl rfl (c_X4_clear_54 l G _ a6 a21) rfl rfl ⟨Nat.le_of_ble_eq_true rfl, Nat.le_of_ble_eq_true rfl⟩ rfl hl.1 rfl (Nat.le_of_ble_eq_true rfl) dX11_takeOver_77 ⟨(Nat.le_of_ble_eq_true rfl), (Nat.le_of_ble_eq_true rfl)⟩) (fun  t H locs hp hB J => ?_)
  have hq := hB
  have B := J _ hq
  have B : zB G A s.heap [zo a0 9 [.ref a3, .ref a8, .ref a1, .ref a2, .ref a9, .ref a10, .ref a7, .ref a6, .ref a11, .ref a12, .ref a5, .ref a4, .ref a13, .null, .int 0, .int (-1)], zi G a4 4 zPr, zz G a7 3 (fun _ => 0), zo a2 0 [.ref a15, .int 0], zo a1 4 [.int (-1), .int 0, .ref a14], zo a5 8 [.int 0, .int 0, .int 0, .int 0, .int 0, .int 0, .ref a20], zo a3 6 [.ref a16, .ref a17, .ref a18, .ref a19, .int 0, .int 0, .int 1, .int 0, .int 0, .long 0], zo a6 3 [.ref a21, .int 0, .int 0]] _ _ := B
  refine lv_iconst (v := 0) E.x E.b dX11_takeOver_80 (by decide) ?_
  refine lv_istore_n (lv' := [(1, .int 0), (0, .ref a0)]) E.x E.b dX11_takeOver_81 rfl hl (by decide) rfl (fun ls hl => ?_)
  refine lv_iload_n E.x E.b dX11_takeOver_82 rfl (lv_at hl 0 rfl) ?_
  refine lv_iconst (v := 3) E.x E.b dX11_takeOver_83 (by decide) ?_
  refine lv_icmp_ge (tgt := 100) E.x E.b dX11_takeOver_84 (by decide) (fun c => absurd c (by decide +kernel)) (fun _ => ?_)
  refine lv_aload_n E.x E.b dX11_takeOver_87 rfl (lv_at hl 1 rfl) ?_
  refine z_get E B z_inX11 (ci := 9) rfl 6 (by decide) t_375 0 rfl rfl dX11_takeOver_88 ?_
  refine lv_iload_n E.x E.b dX11_takeOver_91 rfl (lv_at hl 0 rfl) ?_
  refine lv_iconst (v := 0) E.x E.b dX11_takeOver_92 (by decide) ?_
  refine z_zast0 E B 2 rfl (show ¬ ((0 : Int32) < 0 ∨ 3 ≤ (0 : Int32).toNatClampNeg) by decide +kernel) dX11_takeOver_93 (fun H locs B => ?_)
  have B : zB G A s.heap [zo a0 9 [.ref a3, .ref a8, .ref a1, .ref a2, .ref a9, .ref a10, .ref a7, .ref a6, .ref a11, .ref a12, .ref a5, .ref a4, .ref a13, .null, .int 0, .int (-1)], zi G a4 4 zPr, zz G a7 3 (fun _ => 0), zo a2 0 [.ref a15, .int 0], zo a1 4 [.int (-1), .int 0, .ref a14], zo a5 8 [.int 0, .int 0, .int 0, .int 0, .int 0, .int 0, .ref a20], zo a3 6 [.ref a16, .ref a17, .ref a18, .ref a19, .int 0, .int 0, .int 1, .int 0, .int 0, .long 0], zo a6 3 [.ref a21, .int 0, .int 0]] _ _ := B
  refine lv_iinc (v := 1) (lv' := [(1, .int 1), (0, .ref a0)]) E.x E.b dX11_takeOver_94 hl (k := 0) rfl (by decide +kernel) (by decide) rfl (fun ls hl => ?_)
  refine lv_goto (tgt := 82) E.x E.b dX11_takeOver_97 (by decide) ?_
  refine lv_iload_n E.x E.b dX11_takeOver_82 rfl (lv_at hl 0 rfl) ?_
  refine lv_iconst (v := 3) E.x E.b dX11_takeOver_83 (by decide) ?_
  refine lv_icmp_ge (tgt := 100) E.x E.b dX11_takeOver_84 (by decide) (fun c => absurd c (by decide +kernel)) (fun _ => ?_)
  refine lv_aload_n E.x E.b dX11_takeOver_87 rfl (lv_at hl 1 rfl) ?_
  refine z_get E B z_inX11 (ci := 9) rfl 6 (by decide) t_375 0 rfl rfl dX11_takeOver_88 ?_
  refine lv_iload_n E.x E.b dX11_takeOver_91 rfl (lv_at hl 0 rfl) ?_
  refine lv_iconst (v := 0) E.x E.b dX11_takeOver_92 (by decide) ?_
  refine z_zast0 E B 2 rfl (show ¬ ((1 : Int32) < 0 ∨ 3 ≤ (1 : Int32).toNatClampNeg) by decide +kernel) dX11_takeOver_93 (fun H locs B => ?_)
  have B : zB G A s.heap [zo a0 9 [.ref a3, .ref a8, .ref a1, .ref a2, .ref a9, .ref a10, .ref a7, .ref a6, .ref a11, .ref a12, .ref a5, .ref a4, .ref a13, .null, .int 0, .int (-1)], zi G a4 4 zPr, zz G a7 3 (fun _ => 0), zo a2 0 [.ref a15, .int 0], zo a1 4 [.int (-1), .int 0, .ref a14], zo a5 8 [.int 0, .int 0, .int 0, .int 0, .int 0, .int 0, .ref a20], zo a3 6 [.ref a16, .ref a17, .ref a18, .ref a19, .int 0, .int 0, .int 1, .int 0, .int 0, .long 0], zo a6 3 [.ref a21, .int 0, .int 0]] _ _ := B
  refine lv_iinc (v := 2) (lv' := [(1, .int 2), (0, .ref a0)]) E.x E.b dX11_takeOver_94 hl (k := 0) rfl (by decide +kernel) (by decide) rfl (fun ls hl => ?_)
  refine lv_goto (tgt := 82) E.x E.b dX11_takeOver_97 (by decide) ?_
  refine lv_iload_n E.x E.b dX11_takeOver_82 rfl (lv_at hl 0 rfl) ?_
  refine lv_iconst (v := 3) E.x E.b dX11_takeOver_83 (by decide) ?_
  refine lv_icmp_ge (tgt := 100) E.x E.b dX11_takeOver_84 (by decide) (fun c => absurd c (by decide +kernel)) (fun _ => ?_)
  refine lv_aload_n E.x E.b dX11_takeOver_87 rfl (lv_at hl 1 rfl) ?_
  refine z_get E B z_inX11 (ci := 9) rfl 6 (by decide) t_375 0 rfl rfl dX11_takeOver_88 ?_
  refine lv_iload_n E.x E.b dX11_takeOver_91 rfl (lv_at hl 0 rfl) ?_
  refine lv_iconst (v := 0) E.x E.b dX11_takeOver_92 (by decide) ?_
  refine z_zast0 E B 2 rfl (show ¬ ((2 : Int32) < 0 ∨ 3 ≤ (2 : Int32).toNatClampNeg) by decide +kernel) dX11_takeOver_93 (fun H locs B => ?_)
  have B : zB G A s.heap [zo a0 9 [.ref a3, .ref a8, .ref a1, .ref a2, .ref a9, .ref a10, .ref a7, .ref a6, .ref a11, .ref a12, .ref a5, .ref a4, .ref a13, .null, .int 0, .int (-1)], zi G a4 4 zPr, zz G a7 3 (fun _ => 0), zo a2 0 [.ref a15, .int 0], zo a1 4 [.int (-1), .int 0, .ref a14], zo a5 8 [.int 0, .int 0, .int 0, .int 0, .int 0, .int 0, .ref a20], zo a3 6 [.ref a16, .ref a17, .ref a18, .ref a19, .int 0, .int 0, .int 1, .int 0, .int 0, .long 0], zo a6 3 [.ref a21, .int 0, .int 0]] _ _ := B
  refine lv_iinc (v := 3) (lv' := [(1, .int 3), (0, .ref a0)]) E.x E.b dX11_takeOver_94 hl (k := 0) rfl (by decide +kernel) (by decide) rfl (fun ls hl => ?_)
  refine lv_goto (tgt := 82) E.x E.b dX11_takeOver_97 (by decide) ?_
  refine lv_iload_n E.x E.b dX11_takeOver_82 rfl (lv_at hl 0 rfl) ?_
  refine lv_iconst (v := 3) E.x E.b dX11_takeOver_83 (by decide) ?_
  refine lv_icmp_ge (tgt := 100) E.x E.b dX11_takeOver_84 (by decide) (fun _ => ?_) (fun c => absurd (by decide +kernel) c)
  refine W.widen (k := 0) (n := 0) (Nat.le_of_ble_eq_true rfl) (Nat.le_of_ble_eq_true rfl) ?_
  exact z_vret E hr hlocks B trivial (fun t ht => z_q B [0, 4, 3, 6, 1, 5, 7, 2] (by decide) rfl ht) dX11_takeOver_100
set_option maxHeartbeats 4000000 in
set_option maxRecDepth 100000 in
theorem c_X11_read_56 (l : Launch) (G : zGT) (sz tp : Nat) (a0 a1 a2 a3 a4 a5 a6 a7 a8 a9 a10 a11 a12 a13 a14 a15 a16 a17 a18 a19 a20 a21 : Nat) : Met l yX11_read (.code yX11_read cX11_read 2 (some .int) :: zT) ({ frames := 3, cells := 0, slots := 0, locals := 129 }) (va_Pc [.ref a0] (fun U => zPc G [zo a0 9 [.ref a2, .ref a1, .ref a3, .ref a4, .ref a9, .ref a10, .ref a8, .ref a7, .ref a11, .ref a12, .ref a6, .ref a5, .ref a13, .null, .int 0, .int (-1)], zo a1 2 [.int 0, .int 0, .int 0, .int 0, .int 0, .int 0], zo a2 6 [.ref a14, .ref a15, .ref a16, .ref a17, .int 0, .int 0, .int 0, .int 0, .int 0, .long 0], zo a3 4 [.int 0, .int 0, .ref a18], zo a4 0 [.ref a19, .int 0], zi G a5 4 zPr, zo a6 8 [.int 0, .int 0, .int 0, .int 0, .int 0, .int 0, .ref a20], zo a7 3 [.ref a21, .int 0, .int 0], zz G a8 3 (fun _ => 0)] sz U ∧ zS G tp (va_A [zo a0 9 [.ref a2, .ref a1, .ref a3, .ref a4, .ref a9, .ref a10, .ref a8, .ref a7, .ref a11, .ref a12, .ref a6, .ref a5, .ref a13, .null, .int 0, .int (-1)], zo a1 2 [.int 0, .int 0, .int 0, .int 0, .int 0, .int 0], zo a2 6 [.ref a14, .ref a15, .ref a16, .ref a17, .int 0, .int 0, .int 0, .int 0, .int 0, .long 0], zo a3 4 [.int 0, .int 0, .ref a18], zo a4 0 [.ref a19, .int 0], zi G a5 4 zPr, zo a6 8 [.int 0, .int 0, .int 0, .int 0, .int 0, .int 0, .ref a20], zo a7 3 [.ref a21, .int 0, .int 0], zz G a8 3 (fun _ => 0)] sz) U)) ((fun A => va_Qi (fun (r : Int32) (_ : Unit) => r = 0) (fun (_ : Unit) t => zQ G [] A t) A) (va_A [zo a0 9 [.ref a2, .ref a1, .ref a3, .ref a4, .ref a9, .ref a10, .ref a8, .ref a7, .ref a11, .ref a12, .ref a6, .ref a5, .ref a13, .null, .int 0, .int (-1)], zo a1 2 [.int 0, .int 0, .int 0, .int 0, .int 0, .int 0], zo a2 6 [.ref a14, .ref a15, .ref a16, .ref a17, .int 0, .int 0, .int 0, .int 0, .int 0, .long 0], zo a3 4 [.int 0, .int 0, .ref a18], zo a4 0 [.ref a19, .int 0], zi G a5 4 zPr, zo a6 8 [.int 0, .int 0, .int 0, .int 0, .int 0, .int 0, .ref a20], zo a7 3 [.ref a21, .int 0, .int 0], zz G a8 3 (fun _ => 0)] sz)) 0 0 (va_A [zo a0 9 [.ref a2, .ref a1, .ref a3, .ref a4, .ref a9, .ref a10, .ref a8, .ref a7, .ref a11, .ref a12, .ref a6, .ref a5, .ref a13, .null, .int 0, .int (-1)], zo a1 2 [.int 0, .int 0, .int 0, .int 0, .int 0, .int 0], zo a2 6 [.ref a14, .ref a15, .ref a16, .ref a17, .int 0, .int 0, .int 0, .int 0, .int 0, .long 0], zo a3 4 [.int 0, .int 0, .ref a18], zo a4 0 [.ref a19, .int 0], zi G a5 4 zPr, zo a6 8 [.int 0, .int 0, .int 0, .int 0, .int 0, .int 0, .ref a20], zo a7 3 [.ref a21, .int 0, .int 0], zz G a8 3 (fun _ => 0)] sz) := by
  refine z_startS (y := yX11_read) (bytes := cX11_read) (maxL := 2) (ret := (some .int)) (av := [.ref a0]) (QA := (fun A => va_Qi (fun (r : Int32) (_ : Unit) => r = 0) (fun (_ : Unit) t => zQ G [] A t) A)) (by decide) ⟨Nat.le_of_ble_eq_true rfl, trivial⟩ ?_
  intro p e s m below meth c A ls E hSs B hr hlocks hin hl
  have hl : lv_has ls 2 [(0, .ref a0)] := hl
  have B : zB G A s.heap [zo a0 9 [.ref a2, .ref a1, .ref a3, .ref a4, .ref a9, .ref a10, .ref a8, .ref a7, .ref a11, .ref a12, .ref a6, .ref a5, .ref a13, .null, .int 0, .int (-1)], zo a1 2 [.int 0, .int 0, .int 0, .int 0, .int 0, .int 0], zo a2 6 [.ref a14, .ref a15, .ref a16, .ref a17, .int 0, .int 0, .int 0, .int 0, .int 0, .long 0], zo a3 4 [.int 0, .int 0, .ref a18], zo a4 0 [.ref a19, .int 0], zi G a5 4 zPr, zo a6 8 [.int 0, .int 0, .int 0, .int 0, .int 0, .int 0, .ref a20], zo a7 3 [.ref a21, .int 0, .int 0], zz G a8 3 (fun _ => 0)] s.heap [] := B
  refine lv_aload_n E.x E.b dX11_read_0 rfl (lv_at hl 0 rfl) ?_
  refine z_get E B z_inX11 (ci := 9) rfl 1 (by decide) t_370 0 rfl rfl dX11_read_1 ?_
  refine lv_aload_n E.x E.b dX11_read_4 rfl (lv_at hl 0 rfl) ?_
  refine z_get E B z_inX11 (ci := 9) rfl 0 (by decide) t_369 0 rfl rfl dX11_read_5 ?_
  refine z_calli E B (wc := [zo a1 2 [.int 0, .int 0, .int 0, .int 0, .int 0, .int 0], zo a2 6 [.ref a14, .ref a15, .ref a16, .ref a17, .int 0, .int 0, .int 0, .int 0, .int 0, .long 0]]) (wr := [zo a0 9 [.ref a2, .ref a1, .ref a3, .ref a4, .ref a9, .ref a10, .ref a8, .ref a7, .ref a11, .ref a12, .ref a6, .ref a5, .ref a13, .null, .int 0, .int (-1)], zo a3 4 [.int 0, .int 0, .ref a18], zo a4 0 [.ref a19, .int 0], zi G a5 4 zPr, zo a6 8 [.int 0, .int 0, .int 0, .int 0, .int 0, .int 0, .ref a20], zo a7 3 [.ref a21, .int 0, .int 0], zz G a8 3 (fun _ => 0)]) [1, 2] [0, 3, 4, 5, 6, 7, 8] rfl rfl (by decide) (by decide) (z_runV E B (As := [.ref a2]) (rest := []) [1, 2] rfl (by decide) mv_X3_check t_438 0 (ci := 2) rfl rfl rfl (c_X3_check_48 l G _ a1 a2 a14 a15 a16 a17) rfl rfl ⟨Nat.le_of_ble_eq_true rfl, Nat.le_of_ble_eq_true rfl⟩ rfl hl.1 rfl (Nat.le_of_ble_eq_true rfl) dX11_read_8 ⟨(Nat.le_of_ble_eq_true rfl), (Nat.le_of_ble_eq_true rfl)⟩) (fun r t H locs hp hB J => ?_)
  have hq := hB
  have B := J _ hq
  have B : zB G A s.heap [zo a0 9 [.ref a2, .ref a1, .ref a3, .ref a4, .ref a9, .ref a10, .ref a8, .ref a7, .ref a11, .ref a12, .ref a6, .ref a5, .ref a13, .null, .int 0, .int (-1)], zo a3 4 [.int 0, .int 0, .ref a18], zo a4 0 [.ref a19, .int 0], zi G a5 4 zPr, zo a6 8 [.int 0, .int 0, .int 0, .int 0, .int 0, .int 0, .ref a20], zo a7 3 [.ref a21, .int 0, .int 0], zz G a8 3 (fun _ => 0), zo a1 2 [.int (-1), .int 0, .int 0, .int 0, .int 0, .int 0], zo a2 6 [.ref a14, .ref a15, .ref a16, .ref a17, .int 0, .int 0, .int 1, .int 0, .int 0, .long 0]] _ _ := B
  have hp := hp.symm
  subst hp
  refine lv_istore_n (lv' := [(1, .int 0), (0, .ref a0)]) E.x E.b dX11_read_11 rfl hl (by decide) rfl (fun ls hl => ?_)
  refine lv_aload_n E.x E.b dX11_read_12 rfl (lv_at hl 1 rfl) ?_
  refine lv_aload_n E.x E.b dX11_read_13 rfl (lv_at hl 1 rfl) ?_
  refine z_get E B z_inX11 (ci := 9) rfl 1 (by decide) t_370 0 rfl rfl dX11_read_14 ?_
  refine z_get E B z_inX3 (ci := 2) rfl 0 (by decide) t_202 7 rfl rfl dX11_read_17 ?_
  refine z_put E B z_inX11 tyX11 tyX11_ok nmX11 (ci := 9) rfl 15 (by decide) rfl (ty := .int) (by decide +kernel) t_384 0 rfl (Nat.le_of_ble_eq_true rfl) rfl rfl dX11_read_20 (fun H locs B => ?_)
  have B : zB G A s.heap [zo a0 9 [.ref a2, .ref a1, .ref a3, .ref a4, .ref a9, .ref a10, .ref a8, .ref a7, .ref a11, .ref a12, .ref a6, .ref a5, .ref a13, .null, .int 0, .int (-1)], zo a3 4 [.int 0, .int 0, .ref a18], zo a4 0 [.ref a19, .int 0], zi G a5 4 zPr, zo a6 8 [.int 0, .int 0, .int 0, .int 0, .int 0, .int 0, .ref a20], zo a7 3 [.ref a21, .int 0, .int 0], zz G a8 3 (fun _ => 0), zo a1 2 [.int (-1), .int 0, .int 0, .int 0, .int 0, .int 0], zo a2 6 [.ref a14, .ref a15, .ref a16, .ref a17, .int 0, .int 0, .int 1, .int 0, .int 0, .long 0]] _ _ := B
  refine lv_iload_n E.x E.b dX11_read_23 rfl (lv_at hl 0 rfl) ?_
  refine lv_if_ne (tgt := 50) E.x E.b dX11_read_24 (by decide) (fun c => absurd (by decide +kernel) c) (fun _ => ?_)
  refine lv_aload_n E.x E.b dX11_read_27 rfl (lv_at hl 1 rfl) ?_
  refine z_get E B z_inX11 (ci := 9) rfl 2 (by decide) t_371 0 rfl rfl dX11_read_28 ?_
  refine lv_aload_n E.x E.b dX11_read_31 rfl (lv_at hl 1 rfl) ?_
  refine z_get E B z_inX11 (ci := 9) rfl 0 (by decide) t_369 0 rfl rfl dX11_read_32 ?_
  refine z_calli E B (wc := [zo a3 4 [.int 0, .int 0, .ref a18], zo a2 6 [.ref a14, .ref a15, .ref a16, .ref a17, .int 0, .int 0, .int 1, .int 0, .int 0, .long 0]]) (wr := [zo a0 9 [.ref a2, .ref a1, .ref a3, .ref a4, .ref a9, .ref a10, .ref a8, .ref a7, .ref a11, .ref a12, .ref a6, .ref a5, .ref a13, .null, .int 0, .int (-1)], zo a4 0 [.ref a19, .int 0], zi G a5 4 zPr, zo a6 8 [.int 0, .int 0, .int 0, .int 0, .int 0, .int 0, .ref a20], zo a7 3 [.ref a21, .int 0, .int 0], zz G a8 3 (fun _ => 0), zo a1 2 [.int (-1), .int 0, .int 0, .int 0, .int 0, .int 0]]) [1, 8] [0, 2, 3, 4, 5, 6, 7] rfl rfl (by decide) (by decide) (z_runV E B (As := [.ref a2]) (rest := []) [1, 8] rfl (by decide) mv_X5_check t_574 0 (ci := 4) rfl rfl rfl (c_X5_check_50 l G _ a3 a2 a18 a14 a15 a16 a17) rfl rfl ⟨Nat.le_of_ble_eq_true rfl, Nat.le_of_ble_eq_true rfl⟩ rfl hl.1 rfl (Nat.le_of_ble_eq_true rfl) dX11_read_35 ⟨(Nat.le_of_ble_eq_true rfl), (Nat.le_of_ble_eq_true rfl)⟩) (fun r t H locs hp hB J => ?_)
  have hq := hB
  have B := J _ hq
  have B : zB G A s.heap [zo a0 9 [.ref a2, .ref a1, .ref a3, .ref a4, .ref a9, .ref a10, .ref a8, .ref a7, .ref a11, .ref a12, .ref a6, .ref a5, .ref a13, .null, .int 0, .int (-1)], zo a4 0 [.ref a19, .int 0], zi G a5 4 zPr, zo a6 8 [.int 0, .int 0, .int 0, .int 0, .int 0, .int 0, .ref a20], zo a7 3 [.ref a21, .int 0, .int 0], zz G a8 3 (fun _ => 0), zo a1 2 [.int (-1), .int 0, .int 0, .int 0, .int 0, .int 0], zo a3 4 [.int (-1), .int 0, .ref a18], zo a2 6 [.ref a14, .ref a15, .ref a16, .ref a17, .int 0, .int 0, .int 1, .int 0, .int 0, .long 0]] _ _ := B
  have hp := hp.symm
  subst hp
  refine lv_istore_n (lv' := [(1, .int 0), (0, .ref a0)]) E.x E.b dX11_read_38 rfl hl (by decide) rfl (fun ls hl => ?_)
  refine lv_aload_n E.x E.b dX11_read_39 rfl (lv_at hl 1 rfl) ?_
  refine lv_aload_n E.x E.b dX11_read_40 rfl (lv_at hl 1 rfl) ?_
  refine z_get E B z_inX11 (ci := 9) rfl 2 (by decide) t_371 0 rfl rfl dX11_read_41 ?_
  refine z_get E B z_inX5 (ci := 4) rfl 0 (by decide) t_228 7 rfl rfl dX11_read_44 ?_
  refine z_put E B z_inX11 tyX11 tyX11_ok nmX11 (ci := 9) rfl 15 (by decide) rfl (ty := .int) (by decide +kernel) t_384 0 rfl (Nat.le_of_ble_eq_true rfl) rfl rfl dX11_read_47 (fun H locs B => ?_)
  have B : zB G A s.heap [zo a0 9 [.ref a2, .ref a1, .ref a3, .ref a4, .ref a9, .ref a10, .ref a8, .ref a7, .ref a11, .ref a12, .ref a6, .ref a5, .ref a13, .null, .int 0, .int (-1)], zo a4 0 [.ref a19, .int 0], zi G a5 4 zPr, zo a6 8 [.int 0, .int 0, .int 0, .int 0, .int 0, .int 0, .ref a20], zo a7 3 [.ref a21, .int 0, .int 0], zz G a8 3 (fun _ => 0), zo a1 2 [.int (-1), .int 0, .int 0, .int 0, .int 0, .int 0], zo a3 4 [.int (-1), .int 0, .ref a18], zo a2 6 [.ref a14, .ref a15, .ref a16, .ref a17, .int 0, .int 0, .int 1, .int 0, .int 0, .long 0]] _ _ := B
  refine lv_aload_n E.x E.b dX11_read_50 rfl (lv_at hl 1 rfl) ?_
  refine z_get E B z_inX11 (ci := 9) rfl 0 (by decide) t_369 0 rfl rfl dX11_read_51 ?_
  refine lv_iconst (v := 0) E.x E.b dX11_read_54 (by decide) ?_
  refine z_put E B z_inX8 tyX8 tyX8_ok nmX8 (ci := 6) rfl 4 (by decide) rfl (ty := .int) (by decide +kernel) t_162 8 rfl (Nat.le_of_ble_eq_true rfl) rfl rfl dX11_read_55 (fun H locs B => ?_)
  have B : zB G A s.heap [zo a0 9 [.ref a2, .ref a1, .ref a3, .ref a4, .ref a9, .ref a10, .ref a8, .ref a7, .ref a11, .ref a12, .ref a6, .ref a5, .ref a13, .null, .int 0, .int (-1)], zo a4 0 [.ref a19, .int 0], zi G a5 4 zPr, zo a6 8 [.int 0, .int 0, .int 0, .int 0, .int 0, .int 0, .ref a20], zo a7 3 [.ref a21, .int 0, .int 0], zz G a8 3 (fun _ => 0), zo a1 2 [.int (-1), .int 0, .int 0, .int 0, .int 0, .int 0], zo a3 4 [.int (-1), .int 0, .ref a18], zo a2 6 [.ref a14, .ref a15, .ref a16, .ref a17, .int 0, .int 0, .int 1, .int 0, .int 0, .long 0]] _ _ := B
  refine lv_iload_n E.x E.b dX11_read_58 rfl (lv_at hl 0 rfl) ?_
  refine lv_if_ne (tgt := 66) E.x E.b dX11_read_59 (by decide) (fun c => absurd (by decide +kernel) c) (fun _ => ?_)
  refine lv_aload_n E.x E.b dX11_read_62 rfl (lv_at hl 1 rfl) ?_
  refine z_callv E B (wc := [zo a0 9 [.ref a2, .ref a1, .ref a3, .ref a4, .ref a9, .ref a10, .ref a8, .ref a7, .ref a11, .ref a12, .ref a6, .ref a5, .ref a13, .null, .int 0, .int (-1)], zo a3 4 [.int (-1), .int 0, .ref a18], zo a4 0 [.ref a19, .int 0], zo a2 6 [.ref a14, .ref a15, .ref a16, .ref a17, .int 0, .int 0, .int 1, .int 0, .int 0, .long 0], zi G a5 4 zPr, zo a6 8 [.int 0, .int 0, .int 0, .int 0, .int 0, .int 0, .ref a20], zo a7 3 [.ref a21, .int 0, .int 0], zz G a8 3 (fun _ => 0)]) (wr := [zo a1 2 [.int (-1), .int 0, .int 0, .int 0, .int 0, .int 0]]) [0, 7, 1, 8, 2, 3, 4, 5] [6] rfl rfl (by decide) (by decide) (z_runVS E hSs B (As := []) (rest := []) [0, 7, 1, 8, 2, 3, 4, 5] rfl (by decide) mv_X11_takeOver t_624 0 (ci := 9) rfl rfl rfl (c_X11_takeOver_55 l G _ tp a0 a3 a4 a2 a5 a6 a7 a8 a1 a9 a10 a11 a12 a13 a18 a19 a14 a15 a16 a17 a20 a21) rfl rfl ⟨Nat.le_of_ble_eq_true rfl, Nat.le_of_ble_eq_true rfl⟩ rfl hl.1 rfl (Nat.le_of_ble_eq_true rfl) dX11_read_63 ⟨(Nat.le_of_ble_eq_true rfl), (Nat.le_of_ble_eq_true rfl)⟩) (fun  t H locs hp hB J => ?_)
  have hq := hB
  have B := J _ hq
  have B : zB G A s.heap [zo a1 2 [.int (-1), .int 0, .int 0, .int 0, .int 0, .int 0], zo a0 9 [.ref a2, .ref a1, .ref a3, .ref a4, .ref a9, .ref a10, .ref a8, .ref a7, .ref a11, .ref a12, .ref a6, .ref a5, .ref a13, .null, .int 0, .int (-1)], zo a3 4 [.int (-1), .int 0, .ref a18], zo a4 0 [.ref a19, .int 0], zo a2 6 [.ref a14, .ref a15, .ref a16, .ref a17, .int 0, .int 0, .int 1, .int 0, .int 0, .long 0], zi G a5 4 zPr, zo a6 8 [.int 0, .int 0, .int 0, .int 0, .int 0, .int 0, .ref a20], zo a7 3 [.ref a21, .int 0, .int 0], zz G a8 3 (fun _ => 0)] _ _ := B
  refine lv_iload_n E.x E.b dX11_read_66 rfl (lv_at hl 0 rfl) ?_
  refine W.widen (k := 0) (n := 0) (Nat.le_of_ble_eq_true rfl) (Nat.le_of_ble_eq_true rfl) ?_
  exact z_iret E hr hlocks B (v := 0) rfl (fun t ht => z_q B [] (by decide) rfl ht) dX11_read_67
set_option maxHeartbeats 4000000 in
set_option maxRecDepth 100000 in
theorem c_X11_place_57 (l : Launch) (G : zGT) (sz : Nat) (a0 a1 a2 a3 a4 a5 a6 a7 a8 a9 a10 a11 a12 a13 : Nat) : Met l yX11_place (.code yX11_place cX11_place 1 (some .int) :: zT) ({ frames := 0, cells := 0, slots := 0, locals := 64 }) (va_Pc [.ref a0] (zPc G [zo a0 9 [.ref a1, .ref a2, .ref a3, .ref a4, .ref a5, .ref a6, .ref a7, .ref a8, .ref a9, .ref a10, .ref a11, .ref a12, .ref a13, .null, .int 0, .int (-1)]] sz)) ((fun A => va_Qi (fun (r : Int32) (_ : Unit) => r = (-1)) (fun (_ : Unit) t => zQ G [] A t) A) (va_A [zo a0 9 [.ref a1, .ref a2, .ref a3, .ref a4, .ref a5, .ref a6, .ref a7, .ref a8, .ref a9, .ref a10, .ref a11, .ref a12, .ref a13, .null, .int 0, .int (-1)]] sz)) 0 0 (va_A [zo a0 9 [.ref a1, .ref a2, .ref a3, .ref a4, .ref a5, .ref a6, .ref a7, .ref a8, .ref a9, .ref a10, .ref a11, .ref a12, .ref a13, .null, .int 0, .int (-1)]] sz) := by
  refine z_start (y := yX11_place) (bytes := cX11_place) (maxL := 1) (ret := (some .int)) (av := [.ref a0]) (QA := (fun A => va_Qi (fun (r : Int32) (_ : Unit) => r = (-1)) (fun (_ : Unit) t => zQ G [] A t) A)) (by decide) ⟨Nat.le_of_ble_eq_true rfl, trivial⟩ ?_
  intro p e s m below meth c A ls E B hr hlocks hin hl
  have hl : lv_has ls 1 [(0, .ref a0)] := hl
  have B : zB G A s.heap [zo a0 9 [.ref a1, .ref a2, .ref a3, .ref a4, .ref a5, .ref a6, .ref a7, .ref a8, .ref a9, .ref a10, .ref a11, .ref a12, .ref a13, .null, .int 0, .int (-1)]] s.heap [] := B
  refine lv_aload_n E.x E.b dX11_place_0 rfl (lv_at hl 0 rfl) ?_
  refine z_get E B z_inX11 (ci := 9) rfl 15 (by decide) t_384 0 rfl rfl dX11_place_1 ?_
  refine W.widen (k := 0) (n := 0) (Nat.le_of_ble_eq_true rfl) (Nat.le_of_ble_eq_true rfl) ?_
  exact z_iret E hr hlocks B (v := (-1)) rfl (fun t ht => z_q B [] (by decide) rfl ht) dX11_place_4
set_option maxHeartbeats 4000000 in
set_option maxRecDepth 100000 in
theorem c_X11_isWire_58 (l : Launch) (G : zGT) (sz : Nat) (a0 a1 a2 a3 a4 a5 a6 a7 a8 a9 a10 a11 a12 a13 : Nat) (p0 : Int32) : Met l yX11_isWire (.code yX11_isWire cX11_isWire 2 (some .boolean) :: zT) ({ frames := 0, cells := 0, slots := 0, locals := 64 }) (va_Pc [.ref a0, .int p0] (zPc G [zo a0 9 [.ref a1, .ref a2, .ref a3, .ref a4, .ref a5, .ref a6, .ref a7, .ref a8, .ref a9, .ref a10, .ref a11, .ref a12, .ref a13, .null, .int 0, .int (-1)]] sz)) ((fun A => va_Qi (fun (r : Int32) (_ : Unit) => r = 0) (fun (_ : Unit) t => zQ G [zo a0 9 [.ref a1, .ref a2, .ref a3, .ref a4, .ref a5, .ref a6, .ref a7, .ref a8, .ref a9, .ref a10, .ref a11, .ref a12, .ref a13, .null, .int 0, .int (-1)]] A t) A) (va_A [zo a0 9 [.ref a1, .ref a2, .ref a3, .ref a4, .ref a5, .ref a6, .ref a7, .ref a8, .ref a9, .ref a10, .ref a11, .ref a12, .ref a13, .null, .int 0, .int (-1)]] sz)) 0 0 (va_A [zo a0 9 [.ref a1, .ref a2, .ref a3, .ref a4, .ref a5, .ref a6, .ref a7, .ref a8, .ref a9, .ref a10, .ref a11, .ref a12, .ref a13, .null, .int 0, .int (-1)]] sz) := by
  refine z_start (y := yX11_isWire) (bytes := cX11_isWire) (maxL := 2) (ret := (some .boolean)) (av := [.ref a0, .int p0]) (QA := (fun A => va_Qi (fun (r : Int32) (_ : Unit) => r = 0) (fun (_ : Unit) t => zQ G [zo a0 9 [.ref a1, .ref a2, .ref a3, .ref a4, .ref a5, .ref a6, .ref a7, .ref a8, .ref a9, .ref a10, .ref a11, .ref a12, .ref a13, .null, .int 0, .int (-1)]] A t) A)) (by decide) ⟨Nat.le_of_ble_eq_true rfl, trivial⟩ ?_
  intro p e s m below meth c A ls E B hr hlocks hin hl
  have hl : lv_has ls 2 [(0, .ref a0), (1, .int p0)] := hl
  have B : zB G A s.heap [zo a0 9 [.ref a1, .ref a2, .ref a3, .ref a4, .ref a5, .ref a6, .ref a7, .ref a8, .ref a9, .ref a10, .ref a11, .ref a12, .ref a13, .null, .int 0, .int (-1)]] s.heap [] := B
  refine lv_iload_n E.x E.b dX11_isWire_0 rfl (lv_at hl 1 rfl) ?_
  refine lv_if_lt (tgt := 16) E.x E.b dX11_isWire_1 (by decide) (fun c_1 => ?_) (fun c_1 => ?_)
  · have c_1f : p0.toInt < 0 := zi_lt c_1
    refine lv_iconst (v := 0) E.x E.b dX11_isWire_16 (by decide) ?_
    refine W.widen (k := 0) (n := 0) (Nat.le_of_ble_eq_true rfl) (Nat.le_of_ble_eq_true rfl) ?_
    exact z_zret E hr hlocks B (v := 0) rfl rfl (fun t ht => z_q B [0] (by decide) rfl ht) dX11_isWire_17
  · have c_1f : 0 ≤ p0.toInt := zi_nlt c_1
    refine lv_iload_n E.x E.b dX11_isWire_4 rfl (lv_at hl 1 rfl) ?_
    refine lv_aload_n E.x E.b dX11_isWire_5 rfl (lv_at hl 0 rfl) ?_
    refine z_get E B z_inX11 (ci := 9) rfl 14 (by decide) t_383 0 rfl rfl dX11_isWire_6 ?_
    refine lv_icmp_ge (tgt := 16) E.x E.b dX11_isWire_9 (by decide) (fun c_2 => ?_) (fun c_2 => ?_)
    · have c_2f : 0 ≤ p0.toInt := zi_le c_2
      refine lv_iconst (v := 0) E.x E.b dX11_isWire_16 (by decide) ?_
      refine W.widen (k := 0) (n := 0) (Nat.le_of_ble_eq_true rfl) (Nat.le_of_ble_eq_true rfl) ?_
      exact z_zret E hr hlocks B (v := 0) rfl rfl (fun t ht => z_q B [0] (by decide) rfl ht) dX11_isWire_17
    · have c_2f : p0.toInt < 0 := zi_nle c_2
      exfalso; omega
set_option maxHeartbeats 4000000 in
set_option maxRecDepth 100000 in
theorem c_X11_fits_59 (l : Launch) (G : zGT) (sz : Nat) (a0 a1 a2 a3 a4 a5 a6 a7 a8 a9 a10 a11 a12 a13 : Nat) (p0 p1 p2 : Int32) : Met l yX11_fits (.code yX11_fits cX11_fits 5 (some .boolean) :: zT) ({ frames := 1, cells := 0, slots := 0, locals := 85 }) (va_Pc [.ref a0, .int p0, .int p1, .int p2] (zPc G [zo a0 9 [.ref a1, .ref a2, .ref a3, .ref a4, .ref a5, .ref a6, .ref a7, .ref a8, .ref a9, .ref a10, .ref a11, .ref a12, .ref a13, .null, .int 0, .int (-1)]] sz)) ((fun A => va_Qi (fun (r : Int32) (_ : Unit) => r = 0) (fun (_ : Unit) t => zQ G [zo a0 9 [.ref a1, .ref a2, .ref a3, .ref a4, .ref a5, .ref a6, .ref a7, .ref a8, .ref a9, .ref a10, .ref a11, .ref a12, .ref a13, .null, .int 0, .int (-1)]] A t) A) (va_A [zo a0 9 [.ref a1, .ref a2, .ref a3, .ref a4, .ref a5, .ref a6, .ref a7, .ref a8, .ref a9, .ref a10, .ref a11, .ref a12, .ref a13, .null, .int 0, .int (-1)]] sz)) 0 0 (va_A [zo a0 9 [.ref a1, .ref a2, .ref a3, .ref a4, .ref a5, .ref a6, .ref a7, .ref a8, .ref a9, .ref a10, .ref a11, .ref a12, .ref a13, .null, .int 0, .int (-1)]] sz) := by
  refine z_start (y := yX11_fits) (bytes := cX11_fits) (maxL := 5) (ret := (some .boolean)) (av := [.ref a0, .int p0, .int p1, .int p2]) (QA := (fun A => va_Qi (fun (r : Int32) (_ : Unit) => r = 0) (fun (_ : Unit) t => zQ G [zo a0 9 [.ref a1, .ref a2, .ref a3, .ref a4, .ref a5, .ref a6, .ref a7, .ref a8, .ref a9, .ref a10, .ref a11, .ref a12, .ref a13, .null, .int 0, .int (-1)]] A t) A)) (by decide) ⟨Nat.le_of_ble_eq_true rfl, trivial⟩ ?_
  intro p e s m below meth c A ls E B hr hlocks hin hl
  have hl : lv_has ls 5 [(0, .ref a0), (1, .int p0), (2, .int p1), (3, .int p2)] := hl
  have B : zB G A s.heap [zo a0 9 [.ref a1, .ref a2, .ref a3, .ref a4, .ref a5, .ref a6, .ref a7, .ref a8, .ref a9, .ref a10, .ref a11, .ref a12, .ref a13, .null, .int 0, .int (-1)]] s.heap [] := B
  refine lv_aload_n E.x E.b dX11_fits_0 rfl (lv_at hl 0 rfl) ?_
  refine lv_iload_n E.x E.b dX11_fits_1 rfl (lv_at hl 1 rfl) ?_
  refine z_calli E B (wc := [zo a0 9 [.ref a1, .ref a2, .ref a3, .ref a4, .ref a5, .ref a6, .ref a7, .ref a8, .ref a9, .ref a10, .ref a11, .ref a12, .ref a13, .null, .int 0, .int (-1)]]) (wr := []) [0] [] rfl rfl (by decide) (by decide) (z_runV E B (As := [.int p0]) (rest := []) [0] rfl (by decide) mv_X11_isWire t_683 0 (ci := 9) rfl rfl rfl (c_X11_isWire_58 l G _ a0 a1 a2 a3 a4 a5 a6 a7 a8 a9 a10 a11 a12 a13 p0) rfl rfl ⟨Nat.le_of_ble_eq_true rfl, Nat.le_of_ble_eq_true rfl⟩ rfl hl.1 rfl (Nat.le_of_ble_eq_true rfl) dX11_fits_2 ⟨(Nat.le_of_ble_eq_true rfl), (Nat.le_of_ble_eq_true rfl)⟩) (fun r t H locs hp hB J => ?_)
  have hq := hB
  have B := J _ hq
  have B : zB G A s.heap [zo a0 9 [.ref a1, .ref a2, .ref a3, .ref a4, .ref a5, .ref a6, .ref a7, .ref a8, .ref a9, .ref a10, .ref a11, .ref a12, .ref a13, .null, .int 0, .int (-1)]] _ _ := B
  have hp := hp.symm
  subst hp
  refine lv_if_eq (tgt := 14) E.x E.b dX11_fits_5 (by decide) (fun _ => ?_) (fun c => absurd (by decide +kernel) c)
  refine lv_iconst (v := 0) E.x E.b dX11_fits_14 (by decide) ?_
  refine W.widen (k := 0) (n := 0) (Nat.le_of_ble_eq_true rfl) (Nat.le_of_ble_eq_true rfl) ?_
  exact z_zret E hr hlocks B (v := 0) rfl rfl (fun t ht => z_q B [0] (by decide) rfl ht) dX11_fits_15
set_option maxHeartbeats 4000000 in
set_option maxRecDepth 100000 in
theorem c_X11_put_60 (l : Launch) (G : zGT) (sz : Nat) (a0 a1 a2 a3 a4 a5 a6 a7 a8 a9 a10 a11 a12 a13 a14 : Nat) (p0 p1 p2 p3 : Int32) : Met l yX11_put (.code yX11_put cX11_put 5 (some .boolean) :: zT) ({ frames := 2, cells := 0, slots := 0, locals := 109 }) (va_Pc [.ref a0, .int p0, .int p1, .int p2, .int p3] (zPc G [zo a0 9 [.ref a2, .ref a3, .ref a4, .ref a1, .ref a5, .ref a6, .ref a7, .ref a8, .ref a9, .ref a10, .ref a11, .ref a12, .ref a13, .null, .int 0, .int (-1)], zo a1 0 [.ref a14, .int 0]] sz)) ((fun A => va_Qi (fun (r : Int32) (_ : Unit) => r = 0) (fun (_ : Unit) t => zQ G [] A t) A) (va_A [zo a0 9 [.ref a2, .ref a3, .ref a4, .ref a1, .ref a5, .ref a6, .ref a7, .ref a8, .ref a9, .ref a10, .ref a11, .ref a12, .ref a13, .null, .int 0, .int (-1)], zo a1 0 [.ref a14, .int 0]] sz)) 0 0 (va_A [zo a0 9 [.ref a2, .ref a3, .ref a4, .ref a1, .ref a5, .ref a6, .ref a7, .ref a8, .ref a9, .ref a10, .ref a11, .ref a12, .ref a13, .null, .int 0, .int (-1)], zo a1 0 [.ref a14, .int 0]] sz) := by
  refine z_start (y := yX11_put) (bytes := cX11_put) (maxL := 5) (ret := (some .boolean)) (av := [.ref a0, .int p0, .int p1, .int p2, .int p3]) (QA := (fun A => va_Qi (fun (r : Int32) (_ : Unit) => r = 0) (fun (_ : Unit) t => zQ G [] A t) A)) (by decide) ⟨Nat.le_of_ble_eq_true rfl, trivial⟩ ?_
  intro p e s m below meth c A ls E B hr hlocks hin hl
  have hl : lv_has ls 5 [(0, .ref a0), (1, .int p0), (2, .int p1), (3, .int p2), (4, .int p3)] := hl
  have B : zB G A s.heap [zo a0 9 [.ref a2, .ref a3, .ref a4, .ref a1, .ref a5, .ref a6, .ref a7, .ref a8, .ref a9, .ref a10, .ref a11, .ref a12, .ref a13, .null, .int 0, .int (-1)], zo a1 0 [.ref a14, .int 0]] s.heap [] := B
  refine lv_aload_n E.x E.b dX11_put_0 rfl (lv_at hl 0 rfl) ?_
  refine z_get E B z_inX11 (ci := 9) rfl 3 (by decide) t_372 0 rfl rfl dX11_put_1 ?_
  refine z_get E B z_inX0 (ci := 0) rfl 1 (by decide) t_253 1 rfl rfl dX11_put_4 ?_
  refine lv_bipush (v := 16) E.x E.b dX11_put_7 (by decide) ?_
  refine lv_icmp_ge (tgt := 38) E.x E.b dX11_put_9 (by decide) (fun c => absurd c (by decide +kernel)) (fun _ => ?_)
  refine lv_iload_n E.x E.b dX11_put_12 rfl (lv_at hl 1 rfl) ?_
  refine lv_if_lt (tgt := 38) E.x E.b dX11_put_13 (by decide) (fun c_1 => ?_) (fun c_1 => ?_)
  · have c_1f : p0.toInt < 0 := zi_lt c_1
    refine lv_iconst (v := 0) E.x E.b dX11_put_38 (by decide) ?_
    refine W.widen (k := 0) (n := 0) (Nat.le_of_ble_eq_true rfl) (Nat.le_of_ble_eq_true rfl) ?_
    exact z_zret E hr hlocks B (v := 0) rfl rfl (fun t ht => z_q B [] (by decide) rfl ht) dX11_put_39
  · have c_1f : 0 ≤ p0.toInt := zi_nlt c_1
    refine lv_iload_n E.x E.b dX11_put_16 rfl (lv_at hl 1 rfl) ?_
    refine lv_aload_n E.x E.b dX11_put_17 rfl (lv_at hl 0 rfl) ?_
    refine z_get E B z_inX11 (ci := 9) rfl 3 (by decide) t_372 0 rfl rfl dX11_put_18 ?_
    refine z_get E B z_inX0 (ci := 0) rfl 1 (by decide) t_253 1 rfl rfl dX11_put_21 ?_
    refine lv_icmp_gt (tgt := 38) E.x E.b dX11_put_24 (by decide) (fun c_2 => ?_) (fun c_2 => ?_)
    · have c_2f : 0 < p0.toInt := zi_lt c_2
      refine lv_iconst (v := 0) E.x E.b dX11_put_38 (by decide) ?_
      refine W.widen (k := 0) (n := 0) (Nat.le_of_ble_eq_true rfl) (Nat.le_of_ble_eq_true rfl) ?_
      exact z_zret E hr hlocks B (v := 0) rfl rfl (fun t ht => z_q B [] (by decide) rfl ht) dX11_put_39
    · have c_2f : p0.toInt ≤ 0 := zi_nlt c_2
      obtain rfl := zi_pt (x := p0) 0 (by show p0.toInt = 0; omega)
      refine lv_aload_n E.x E.b dX11_put_27 rfl (lv_at hl 0 rfl) ?_
      refine lv_iload_n E.x E.b dX11_put_28 rfl (lv_at hl 2 rfl) ?_
      refine lv_iload_n E.x E.b dX11_put_29 rfl (lv_at hl 3 rfl) ?_
      refine lv_iload E.x E.b dX11_put_30 (lv_at hl 4 rfl) ?_
      refine z_calli E B (wc := [zo a0 9 [.ref a2, .ref a3, .ref a4, .ref a1, .ref a5, .ref a6, .ref a7, .ref a8, .ref a9, .ref a10, .ref a11, .ref a12, .ref a13, .null, .int 0, .int (-1)]]) (wr := [zo a1 0 [.ref a14, .int 0]]) [0] [1] rfl rfl (by decide) (by decide) (z_runV E B (As := [.int p1, .int p2, .int p3]) (rest := []) [0] rfl (by decide) mv_X11_fits t_679 0 (ci := 9) rfl rfl rfl (c_X11_fits_59 l G _ a0 a2 a3 a4 a1 a5 a6 a7 a8 a9 a10 a11 a12 a13 p1 p2 p3) rfl rfl ⟨Nat.le_of_ble_eq_true rfl, Nat.le_of_ble_eq_true rfl⟩ rfl hl.1 rfl (Nat.le_of_ble_eq_true rfl) dX11_put_32 ⟨(Nat.le_of_ble_eq_true rfl), (Nat.le_of_ble_eq_true rfl)⟩) (fun r t H locs hp hB J => ?_)
      have hq := hB
      have B := J _ hq
      have B : zB G A s.heap [zo a1 0 [.ref a14, .int 0], zo a0 9 [.ref a2, .ref a3, .ref a4, .ref a1, .ref a5, .ref a6, .ref a7, .ref a8, .ref a9, .ref a10, .ref a11, .ref a12, .ref a13, .null, .int 0, .int (-1)]] _ _ := B
      have hp := hp.symm
      subst hp
      refine lv_if_ne (tgt := 40) E.x E.b dX11_put_35 (by decide) (fun c => absurd (by decide +kernel) c) (fun _ => ?_)
      refine lv_iconst (v := 0) E.x E.b dX11_put_38 (by decide) ?_
      refine W.widen (k := 0) (n := 0) (Nat.le_of_ble_eq_true rfl) (Nat.le_of_ble_eq_true rfl) ?_
      exact z_zret E hr hlocks B (v := 0) rfl rfl (fun t ht => z_q B [] (by decide) rfl ht) dX11_put_39
set_option maxHeartbeats 4000000 in
set_option maxRecDepth 100000 in
theorem c_X0_has_61 (l : Launch) (G : zGT) (sz : Nat) (a0 a1 : Nat) (p0 : Int32) : Met l yX0_has (.code yX0_has cX0_has 2 (some .boolean) :: zT) ({ frames := 0, cells := 0, slots := 0, locals := 64 }) (va_Pc [.ref a0, .int p0] (zPc G [zo a0 0 [.ref a1, .int 0]] sz)) ((fun A => va_Qi (fun (r : Int32) (_ : Unit) => r = 0) (fun (_ : Unit) t => zQ G [zo a0 0 [.ref a1, .int 0]] A t) A) (va_A [zo a0 0 [.ref a1, .int 0]] sz)) 0 0 (va_A [zo a0 0 [.ref a1, .int 0]] sz) := by
  refine z_start (y := yX0_has) (bytes := cX0_has) (maxL := 2) (ret := (some .boolean)) (av := [.ref a0, .int p0]) (QA := (fun A => va_Qi (fun (r : Int32) (_ : Unit) => r = 0) (fun (_ : Unit) t => zQ G [zo a0 0 [.ref a1, .int 0]] A t) A)) (by decide) ⟨Nat.le_of_ble_eq_true rfl, trivial⟩ ?_
  intro p e s m below meth c A ls E B hr hlocks hin hl
  have hl : lv_has ls 2 [(0, .ref a0), (1, .int p0)] := hl
  have B : zB G A s.heap [zo a0 0 [.ref a1, .int 0]] s.heap [] := B
  refine lv_iload_n E.x E.b dX0_has_0 rfl (lv_at hl 1 rfl) ?_
  refine lv_if_lt (tgt := 16) E.x E.b dX0_has_1 (by decide) (fun c_1 => ?_) (fun c_1 => ?_)
  · have c_1f : p0.toInt < 0 := zi_lt c_1
    refine lv_iconst (v := 0) E.x E.b dX0_has_16 (by decide) ?_
    refine W.widen (k := 0) (n := 0) (Nat.le_of_ble_eq_true rfl) (Nat.le_of_ble_eq_true rfl) ?_
    exact z_zret E hr hlocks B (v := 0) rfl rfl (fun t ht => z_q B [0] (by decide) rfl ht) dX0_has_17
  · have c_1f : 0 ≤ p0.toInt := zi_nlt c_1
    refine lv_iload_n E.x E.b dX0_has_4 rfl (lv_at hl 1 rfl) ?_
    refine lv_aload_n E.x E.b dX0_has_5 rfl (lv_at hl 0 rfl) ?_
    refine z_get E B z_inX0 (ci := 0) rfl 1 (by decide) t_250 0 rfl rfl dX0_has_6 ?_
    refine lv_icmp_ge (tgt := 16) E.x E.b dX0_has_9 (by decide) (fun c_2 => ?_) (fun c_2 => ?_)
    · have c_2f : 0 ≤ p0.toInt := zi_le c_2
      refine lv_iconst (v := 0) E.x E.b dX0_has_16 (by decide) ?_
      refine W.widen (k := 0) (n := 0) (Nat.le_of_ble_eq_true rfl) (Nat.le_of_ble_eq_true rfl) ?_
      exact z_zret E hr hlocks B (v := 0) rfl rfl (fun t ht => z_q B [0] (by decide) rfl ht) dX0_has_17
    · have c_2f : p0.toInt < 0 := zi_nle c_2
      exfalso; omega
