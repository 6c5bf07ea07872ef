set_option maxHeartbeats 4000000 in
set_option maxRecDepth 100000 in
theorem c_X12_appends_22 (l : Launch) (G : zGT) (sz : Nat) : Met l yX12_appends (.code yX12_appends cX12_appends 3 (some .long) :: zT) ({ frames := 0, cells := 0, slots := 0, locals := 64 }) (va_Pc [.long 0, .int 112] (zPc G [] sz)) ((fun A => va_Ql (fun (r : Int64) (_ : Unit) => r = 16) (fun (_ : Unit) t => zQ G [] A t) A) (va_A [] sz)) 0 0 (va_A [] sz) := by
  refine z_start (y := yX12_appends) (bytes := cX12_appends) (maxL := 3) (ret := (some .long)) (av := [.long 0, .int 112]) (QA := (fun A => va_Ql (fun (r : Int64) (_ : Unit) => r = 16) (fun (_ : Unit) t => zQ G [] A t) A)) (by decide) ⟨Nat.le_of_ble_eq_true rfl, trivial⟩ ?_
  intro p e s m below meth c A ls E B hr hlocks hin hl
  have hl : lv_has ls 3 [(0, .long 0), (2, .int 112)] := hl
  have B : zB G A s.heap [] s.heap [] := B
  refine lv_iload_n E.x E.b dX12_appends_0 rfl (lv_at hl 1 rfl) ?_
  refine lv_if_ne (tgt := 8) E.x E.b dX12_appends_1 (by decide) (fun _ => ?_) (fun c => absurd c (by decide +kernel))
  refine lv_ldc2 E.x E.b E.ow (E.w t_1192) dX12_appends_8 ?_
  refine lv_lload_n E.x E.b dX12_appends_11 rfl (lv_at hl 0 rfl) ?_
  refine lv_lmul E.x E.b dX12_appends_12 (z_topl 0 (by decide +kernel) ?_)
  refine lv_iload_n E.x E.b dX12_appends_13 rfl (lv_at hl 1 rfl) ?_
  refine lv_bipush (v := 97) E.x E.b dX12_appends_14 (by decide) ?_
  refine lv_isub E.x E.b dX12_appends_16 (z_topi 15 (by decide +kernel) ?_)
  refine lv_iconst (v := 1) E.x E.b dX12_appends_17 (by decide) ?_
  refine lv_iadd E.x E.b dX12_appends_18 (z_topi 16 (by decide +kernel) ?_)
  refine lv_i2l (v := 16) E.x E.b dX12_appends_19 (by decide +kernel) ?_
  refine lv_ladd E.x E.b dX12_appends_20 (z_topl 16 (by decide +kernel) ?_)
  refine W.widen (k := 0) (n := 0) (Nat.le_of_ble_eq_true rfl) (Nat.le_of_ble_eq_true rfl) ?_
  exact z_lret E hr hlocks B (v := 16) rfl (fun t ht => z_q B [] (by decide) rfl ht) dX12_appends_21
set_option maxHeartbeats 4000000 in
set_option maxRecDepth 100000 in
theorem c_X12_appends_23 (l : Launch) (G : zGT) (sz : Nat) : Met l yX12_appends (.code yX12_appends cX12_appends 3 (some .long) :: zT) ({ frames := 0, cells := 0, slots := 0, locals := 64 }) (va_Pc [.long 16, .int 114] (zPc G [] sz)) ((fun A => va_Ql (fun (r : Int64) (_ : Unit) => r = 450) (fun (_ : Unit) t => zQ G [] A t) A) (va_A [] sz)) 0 0 (va_A [] sz) := by
  refine z_start (y := yX12_appends) (bytes := cX12_appends) (maxL := 3) (ret := (some .long)) (av := [.long 16, .int 114]) (QA := (fun A => va_Ql (fun (r : Int64) (_ : Unit) => r = 450) (fun (_ : Unit) t => zQ G [] A t) A)) (by decide) ⟨Nat.le_of_ble_eq_true rfl, trivial⟩ ?_
  intro p e s m below meth c A ls E B hr hlocks hin hl
  have hl : lv_has ls 3 [(0, .long 16), (2, .int 114)] := hl
  have B : zB G A s.heap [] s.heap [] := B
  refine lv_iload_n E.x E.b dX12_appends_0 rfl (lv_at hl 1 rfl) ?_
  refine lv_if_ne (tgt := 8) E.x E.b dX12_appends_1 (by decide) (fun _ => ?_) (fun c => absurd c (by decide +kernel))
  refine lv_ldc2 E.x E.b E.ow (E.w t_1192) dX12_appends_8 ?_
  refine lv_lload_n E.x E.b dX12_appends_11 rfl (lv_at hl 0 rfl) ?_
  refine lv_lmul E.x E.b dX12_appends_12 (z_topl 432 (by decide +kernel) ?_)
  refine lv_iload_n E.x E.b dX12_appends_13 rfl (lv_at hl 1 rfl) ?_
  refine lv_bipush (v := 97) E.x E.b dX12_appends_14 (by decide) ?_
  refine lv_isub E.x E.b dX12_appends_16 (z_topi 17 (by decide +kernel) ?_)
  refine lv_iconst (v := 1) E.x E.b dX12_appends_17 (by decide) ?_
  refine lv_iadd E.x E.b dX12_appends_18 (z_topi 18 (by decide +kernel) ?_)
  refine lv_i2l (v := 18) E.x E.b dX12_appends_19 (by decide +kernel) ?_
  refine lv_ladd E.x E.b dX12_appends_20 (z_topl 450 (by decide +kernel) ?_)
  refine W.widen (k := 0) (n := 0) (Nat.le_of_ble_eq_true rfl) (Nat.le_of_ble_eq_true rfl) ?_
  exact z_lret E hr hlocks B (v := 450) rfl (fun t ht => z_q B [] (by decide) rfl ht) dX12_appends_21
set_option maxHeartbeats 4000000 in
set_option maxRecDepth 100000 in
theorem c_X12_appends_24 (l : Launch) (G : zGT) (sz : Nat) : Met l yX12_appends (.code yX12_appends cX12_appends 3 (some .long) :: zT) ({ frames := 0, cells := 0, slots := 0, locals := 64 }) (va_Pc [.long 450, .int 105] (zPc G [] sz)) ((fun A => va_Ql (fun (r : Int64) (_ : Unit) => r = 12159) (fun (_ : Unit) t => zQ G [] A t) A) (va_A [] sz)) 0 0 (va_A [] sz) := by
  refine z_start (y := yX12_appends) (bytes := cX12_appends) (maxL := 3) (ret := (some .long)) (av := [.long 450, .int 105]) (QA := (fun A => va_Ql (fun (r : Int64) (_ : Unit) => r = 12159) (fun (_ : Unit) t => zQ G [] A t) A)) (by decide) ⟨Nat.le_of_ble_eq_true rfl, trivial⟩ ?_
  intro p e s m below meth c A ls E B hr hlocks hin hl
  have hl : lv_has ls 3 [(0, .long 450), (2, .int 105)] := hl
  have B : zB G A s.heap [] s.heap [] := B
  refine lv_iload_n E.x E.b dX12_appends_0 rfl (lv_at hl 1 rfl) ?_
  refine lv_if_ne (tgt := 8) E.x E.b dX12_appends_1 (by decide) (fun _ => ?_) (fun c => absurd c (by decide +kernel))
  refine lv_ldc2 E.x E.b E.ow (E.w t_1192) dX12_appends_8 ?_
  refine lv_lload_n E.x E.b dX12_appends_11 rfl (lv_at hl 0 rfl) ?_
  refine lv_lmul E.x E.b dX12_appends_12 (z_topl 12150 (by decide +kernel) ?_)
  refine lv_iload_n E.x E.b dX12_appends_13 rfl (lv_at hl 1 rfl) ?_
  refine lv_bipush (v := 97) E.x E.b dX12_appends_14 (by decide) ?_
  refine lv_isub E.x E.b dX12_appends_16 (z_topi 8 (by decide +kernel) ?_)
  refine lv_iconst (v := 1) E.x E.b dX12_appends_17 (by decide) ?_
  refine lv_iadd E.x E.b dX12_appends_18 (z_topi 9 (by decide +kernel) ?_)
  refine lv_i2l (v := 9) E.x E.b dX12_appends_19 (by decide +kernel) ?_
  refine lv_ladd E.x E.b dX12_appends_20 (z_topl 12159 (by decide +kernel) ?_)
  refine W.widen (k := 0) (n := 0) (Nat.le_of_ble_eq_true rfl) (Nat.le_of_ble_eq_true rfl) ?_
  exact z_lret E hr hlocks B (v := 12159) rfl (fun t ht => z_q B [] (by decide) rfl ht) dX12_appends_21
set_option maxHeartbeats 4000000 in
set_option maxRecDepth 100000 in
theorem c_X12_appends_25 (l : Launch) (G : zGT) (sz : Nat) : Met l yX12_appends (.code yX12_appends cX12_appends 3 (some .long) :: zT) ({ frames := 0, cells := 0, slots := 0, locals := 64 }) (va_Pc [.long 12159, .int 99] (zPc G [] sz)) ((fun A => va_Ql (fun (r : Int64) (_ : Unit) => r = 328296) (fun (_ : Unit) t => zQ G [] A t) A) (va_A [] sz)) 0 0 (va_A [] sz) := by
  refine z_start (y := yX12_appends) (bytes := cX12_appends) (maxL := 3) (ret := (some .long)) (av := [.long 12159, .int 99]) (QA := (fun A => va_Ql (fun (r : Int64) (_ : Unit) => r = 328296) (fun (_ : Unit) t => zQ G [] A t) A)) (by decide) ⟨Nat.le_of_ble_eq_true rfl, trivial⟩ ?_
  intro p e s m below meth c A ls E B hr hlocks hin hl
  have hl : lv_has ls 3 [(0, .long 12159), (2, .int 99)] := hl
  have B : zB G A s.heap [] s.heap [] := B
  refine lv_iload_n E.x E.b dX12_appends_0 rfl (lv_at hl 1 rfl) ?_
  refine lv_if_ne (tgt := 8) E.x E.b dX12_appends_1 (by decide) (fun _ => ?_) (fun c => absurd c (by decide +kernel))
  refine lv_ldc2 E.x E.b E.ow (E.w t_1192) dX12_appends_8 ?_
  refine lv_lload_n E.x E.b dX12_appends_11 rfl (lv_at hl 0 rfl) ?_
  refine lv_lmul E.x E.b dX12_appends_12 (z_topl 328293 (by decide +kernel) ?_)
  refine lv_iload_n E.x E.b dX12_appends_13 rfl (lv_at hl 1 rfl) ?_
  refine lv_bipush (v := 97) E.x E.b dX12_appends_14 (by decide) ?_
  refine lv_isub E.x E.b dX12_appends_16 (z_topi 2 (by decide +kernel) ?_)
  refine lv_iconst (v := 1) E.x E.b dX12_appends_17 (by decide) ?_
  refine lv_iadd E.x E.b dX12_appends_18 (z_topi 3 (by decide +kernel) ?_)
  refine lv_i2l (v := 3) E.x E.b dX12_appends_19 (by decide +kernel) ?_
  refine lv_ladd E.x E.b dX12_appends_20 (z_topl 328296 (by decide +kernel) ?_)
  refine W.widen (k := 0) (n := 0) (Nat.le_of_ble_eq_true rfl) (Nat.le_of_ble_eq_true rfl) ?_
  exact z_lret E hr hlocks B (v := 328296) rfl (fun t ht => z_q B [] (by decide) rfl ht) dX12_appends_21
set_option maxHeartbeats 4000000 in
set_option maxRecDepth 100000 in
theorem c_X12_appends_26 (l : Launch) (G : zGT) (sz : Nat) : Met l yX12_appends (.code yX12_appends cX12_appends 3 (some .long) :: zT) ({ frames := 0, cells := 0, slots := 0, locals := 64 }) (va_Pc [.long 328296, .int 101] (zPc G [] sz)) ((fun A => va_Ql (fun (r : Int64) (_ : Unit) => r = 8863997) (fun (_ : Unit) t => zQ G [] A t) A) (va_A [] sz)) 0 0 (va_A [] sz) := by
  refine z_start (y := yX12_appends) (bytes := cX12_appends) (maxL := 3) (ret := (some .long)) (av := [.long 328296, .int 101]) (QA := (fun A => va_Ql (fun (r : Int64) (_ : Unit) => r = 8863997) (fun (_ : Unit) t => zQ G [] A t) A)) (by decide) ⟨Nat.le_of_ble_eq_true rfl, trivial⟩ ?_
  intro p e s m below meth c A ls E B hr hlocks hin hl
  have hl : lv_has ls 3 [(0, .long 328296), (2, .int 101)] := hl
  have B : zB G A s.heap [] s.heap [] := B
  refine lv_iload_n E.x E.b dX12_appends_0 rfl (lv_at hl 1 rfl) ?_
  refine lv_if_ne (tgt := 8) E.x E.b dX12_appends_1 (by decide) (fun _ => ?_) (fun c => absurd c (by decide +kernel))
  refine lv_ldc2 E.x E.b E.ow (E.w t_1192) dX12_appends_8 ?_
  refine lv_lload_n E.x E.b dX12_appends_11 rfl (lv_at hl 0 rfl) ?_
  refine lv_lmul E.x E.b dX12_appends_12 (z_topl 8863992 (by decide +kernel) ?_)
  refine lv_iload_n E.x E.b dX12_appends_13 rfl (lv_at hl 1 rfl) ?_
  refine lv_bipush (v := 97) E.x E.b dX12_appends_14 (by decide) ?_
  refine lv_isub E.x E.b dX12_appends_16 (z_topi 4 (by decide +kernel) ?_)
  refine lv_iconst (v := 1) E.x E.b dX12_appends_17 (by decide) ?_
  refine lv_iadd E.x E.b dX12_appends_18 (z_topi 5 (by decide +kernel) ?_)
  refine lv_i2l (v := 5) E.x E.b dX12_appends_19 (by decide +kernel) ?_
  refine lv_ladd E.x E.b dX12_appends_20 (z_topl 8863997 (by decide +kernel) ?_)
  refine W.widen (k := 0) (n := 0) (Nat.le_of_ble_eq_true rfl) (Nat.le_of_ble_eq_true rfl) ?_
  exact z_lret E hr hlocks B (v := 8863997) rfl (fun t ht => z_q B [] (by decide) rfl ht) dX12_appends_21
set_option maxHeartbeats 4000000 in
set_option maxRecDepth 100000 in
theorem c_X12_appends_27 (l : Launch) (G : zGT) (sz : Nat) : Met l yX12_appends (.code yX12_appends cX12_appends 3 (some .long) :: zT) ({ frames := 0, cells := 0, slots := 0, locals := 64 }) (va_Pc [.long 8863997, .int 0] (zPc G [] sz)) ((fun A => va_Ql (fun (r : Int64) (_ : Unit) => r = 8863997) (fun (_ : Unit) t => zQ G [] A t) A) (va_A [] sz)) 0 0 (va_A [] sz) := by
  refine z_start (y := yX12_appends) (bytes := cX12_appends) (maxL := 3) (ret := (some .long)) (av := [.long 8863997, .int 0]) (QA := (fun A => va_Ql (fun (r : Int64) (_ : Unit) => r = 8863997) (fun (_ : Unit) t => zQ G [] A t) A)) (by decide) ⟨Nat.le_of_ble_eq_true rfl, trivial⟩ ?_
  intro p e s m below meth c A ls E B hr hlocks hin hl
  have hl : lv_has ls 3 [(0, .long 8863997), (2, .int 0)] := hl
  have B : zB G A s.heap [] s.heap [] := B
  refine lv_iload_n E.x E.b dX12_appends_0 rfl (lv_at hl 1 rfl) ?_
  refine lv_if_ne (tgt := 8) E.x E.b dX12_appends_1 (by decide) (fun c => absurd (by decide +kernel) c) (fun _ => ?_)
  refine lv_lload_n E.x E.b dX12_appends_4 rfl (lv_at hl 0 rfl) ?_
  refine lv_goto (tgt := 21) E.x E.b dX12_appends_5 (by decide) ?_
  refine W.widen (k := 0) (n := 0) (Nat.le_of_ble_eq_true rfl) (Nat.le_of_ble_eq_true rfl) ?_
  exact z_lret E hr hlocks B (v := 8863997) rfl (fun t ht => z_q B [] (by decide) rfl ht) dX12_appends_21
set_option maxHeartbeats 4000000 in
set_option maxRecDepth 100000 in
theorem c_X12_letters_28 (l : Launch) (G : zGT) (sz : Nat) : Met l yX12_letters (.code yX12_letters cX12_letters 7 (some .long) :: zT) ({ frames := 1, cells := 0, slots := 0, locals := 86 }) (va_Pc [.int 112, .int 114, .int 105, .int 99, .int 101, .int 0, .int 0] (zPc G [] sz)) ((fun A => va_Ql (fun (r : Int64) (_ : Unit) => r = 8863997) (fun (_ : Unit) t => zQ G [] A t) A) (va_A [] sz)) 0 0 (va_A [] sz) := by
  refine z_start (y := yX12_letters) (bytes := cX12_letters) (maxL := 7) (ret := (some .long)) (av := [.int 112, .int 114, .int 105, .int 99, .int 101, .int 0, .int 0]) (QA := (fun A => va_Ql (fun (r : Int64) (_ : Unit) => r = 8863997) (fun (_ : Unit) t => zQ G [] A t) A)) (by decide) ⟨Nat.le_of_ble_eq_true rfl, trivial⟩ ?_
  intro p e s m below meth c A ls E B hr hlocks hin hl
  have hl : lv_has ls 7 [(0, .int 112), (1, .int 114), (2, .int 105), (3, .int 99), (4, .int 101), (5, .int 0), (6, .int 0)] := hl
  have B : zB G A s.heap [] s.heap [] := B
  refine lv_lconst (v := 0) E.x E.b dX12_letters_0 (by decide) ?_
  refine lv_iload_n E.x E.b dX12_letters_1 rfl (lv_at hl 0 rfl) ?_
  refine z_calll E B (wc := []) (wr := []) [] [] rfl rfl (by decide) (by decide) (z_runS E B (As := [.long 0, .int 112]) (rest := []) [] rfl (by decide) ms_X12_appends t_1189 (c_X12_appends_22 l G _) rfl rfl ⟨Nat.le_of_ble_eq_true rfl, Nat.le_of_ble_eq_true rfl⟩ rfl hl.1 rfl (Nat.le_of_ble_eq_true rfl) dX12_letters_2 ⟨(Nat.le_of_ble_eq_true rfl), (Nat.le_of_ble_eq_true rfl)⟩) (fun r t H locs hp hB J => ?_)
  have hq := hB
  have B := J _ hq
  have B : zB G A s.heap [] _ _ := B
  have hp := hp.symm
  subst hp
  refine lv_iload_n E.x E.b dX12_letters_5 rfl (lv_at hl 1 rfl) ?_
  refine z_calll E B (wc := []) (wr := []) [] [] rfl rfl (by decide) (by decide) (z_runS E B (As := [.long 16, .int 114]) (rest := []) [] rfl (by decide) ms_X12_appends t_1189 (c_X12_appends_23 l G _) rfl rfl ⟨Nat.le_of_ble_eq_true rfl, Nat.le_of_ble_eq_true rfl⟩ rfl hl.1 rfl (Nat.le_of_ble_eq_true rfl) dX12_letters_6 ⟨(Nat.le_of_ble_eq_true rfl), (Nat.le_of_ble_eq_true rfl)⟩) (fun r t H locs hp hB J => ?_)
  have hq := hB
  have B := J _ hq
  have B : zB G A s.heap [] _ _ := B
  have hp := hp.symm
  subst hp
  refine lv_iload_n E.x E.b dX12_letters_9 rfl (lv_at hl 2 rfl) ?_
  refine z_calll E B (wc := []) (wr := []) [] [] rfl rfl (by decide) (by decide) (z_runS E B (As := [.long 450, .int 105]) (rest := []) [] rfl (by decide) ms_X12_appends t_1189 (c_X12_appends_24 l G _) rfl rfl ⟨Nat.le_of_ble_eq_true rfl, Nat.le_of_ble_eq_true rfl⟩ rfl hl.1 rfl (Nat.le_of_ble_eq_true rfl) dX12_letters_10 ⟨(Nat.le_of_ble_eq_true rfl), (Nat.le_of_ble_eq_true rfl)⟩) (fun r t H locs hp hB J => ?_)
  have hq := hB
  have B := J _ hq
  have B : zB G A s.heap [] _ _ := B
  have hp := hp.symm
  subst hp
  refine lv_iload_n E.x E.b dX12_letters_13 rfl (lv_at hl 3 rfl) ?_
  refine z_calll E B (wc := []) (wr := []) [] [] rfl rfl (by decide) (by decide) (z_runS E B (As := [.long 12159, .int 99]) (rest := []) [] rfl (by decide) ms_X12_appends t_1189 (c_X12_appends_25 l G _) rfl rfl ⟨Nat.le_of_ble_eq_true rfl, Nat.le_of_ble_eq_true rfl⟩ rfl hl.1 rfl (Nat.le_of_ble_eq_true rfl) dX12_letters_14 ⟨(Nat.le_of_ble_eq_true rfl), (Nat.le_of_ble_eq_true rfl)⟩) (fun r t H locs hp hB J => ?_)
  have hq := hB
  have B := J _ hq
  have B : zB G A s.heap [] _ _ := B
  have hp := hp.symm
  subst hp
  refine lv_iload E.x E.b dX12_letters_17 (lv_at hl 4 rfl) ?_
  refine z_calll E B (wc := []) (wr := []) [] [] rfl rfl (by decide) (by decide) (z_runS E B (As := [.long 328296, .int 101]) (rest := []) [] rfl (by decide) ms_X12_appends t_1189 (c_X12_appends_26 l G _) rfl rfl ⟨Nat.le_of_ble_eq_true rfl, Nat.le_of_ble_eq_true rfl⟩ rfl hl.1 rfl (Nat.le_of_ble_eq_true rfl) dX12_letters_19 ⟨(Nat.le_of_ble_eq_true rfl), (Nat.le_of_ble_eq_true rfl)⟩) (fun r t H locs hp hB J => ?_)
  have hq := hB
  have B := J _ hq
  have B : zB G A s.heap [] _ _ := B
  have hp := hp.symm
  subst hp
  refine lv_iload E.x E.b dX12_letters_22 (lv_at hl 5 rfl) ?_
  refine z_calll E B (wc := []) (wr := []) [] [] rfl rfl (by decide) (by decide) (z_runS E B (As := [.long 8863997, .int 0]) (rest := []) [] rfl (by decide) ms_X12_appends t_1189 (c_X12_appends_27 l G _) rfl rfl ⟨Nat.le_of_ble_eq_true rfl, Nat.le_of_ble_eq_true rfl⟩ rfl hl.1 rfl (Nat.le_of_ble_eq_true rfl) dX12_letters_24 ⟨(Nat.le_of_ble_eq_true rfl), (Nat.le_of_ble_eq_true rfl)⟩) (fun r t H locs hp hB J => ?_)
  have hq := hB
  have B := J _ hq
  have B : zB G A s.heap [] _ _ := B
  have hp := hp.symm
  subst hp
  refine lv_iload E.x E.b dX12_letters_27 (lv_at hl 6 rfl) ?_
  refine z_calll E B (wc := []) (wr := []) [] [] rfl rfl (by decide) (by decide) (z_runS E B (As := [.long 8863997, .int 0]) (rest := []) [] rfl (by decide) ms_X12_appends t_1189 (c_X12_appends_27 l G _) rfl rfl ⟨Nat.le_of_ble_eq_true rfl, Nat.le_of_ble_eq_true rfl⟩ rfl hl.1 rfl (Nat.le_of_ble_eq_true rfl) dX12_letters_29 ⟨(Nat.le_of_ble_eq_true rfl), (Nat.le_of_ble_eq_true rfl)⟩) (fun r t H locs hp hB J => ?_)
  have hq := hB
  have B := J _ hq
  have B : zB G A s.heap [] _ _ := B
  have hp := hp.symm
  subst hp
  refine W.widen (k := 0) (n := 0) (Nat.le_of_ble_eq_true rfl) (Nat.le_of_ble_eq_true rfl) ?_
  exact z_lret E hr hlocks B (v := 8863997) rfl (fun t ht => z_q B [] (by decide) rfl ht) dX12_letters_32
set_option maxHeartbeats 4000000 in
set_option maxRecDepth 100000 in
theorem c_X12_appends_29 (l : Launch) (G : zGT) (sz : Nat) : Met l yX12_appends (.code yX12_appends cX12_appends 3 (some .long) :: zT) ({ frames := 0, cells := 0, slots := 0, locals := 64 }) (va_Pc [.long 0, .int 116] (zPc G [] sz)) ((fun A => va_Ql (fun (r : Int64) (_ : Unit) => r = 20) (fun (_ : Unit) t => zQ G [] A t) A) (va_A [] sz)) 0 0 (va_A [] sz) := by
  refine z_start (y := yX12_appends) (bytes := cX12_appends) (maxL := 3) (ret := (some .long)) (av := [.long 0, .int 116]) (QA := (fun A => va_Ql (fun (r : Int64) (_ : Unit) => r = 20) (fun (_ : Unit) t => zQ G [] A t) A)) (by decide) ⟨Nat.le_of_ble_eq_true rfl, trivial⟩ ?_
  intro p e s m below meth c A ls E B hr hlocks hin hl
  have hl : lv_has ls 3 [(0, .long 0), (2, .int 116)] := hl
  have B : zB G A s.heap [] s.heap [] := B
  refine lv_iload_n E.x E.b dX12_appends_0 rfl (lv_at hl 1 rfl) ?_
  refine lv_if_ne (tgt := 8) E.x E.b dX12_appends_1 (by decide) (fun _ => ?_) (fun c => absurd c (by decide +kernel))
  refine lv_ldc2 E.x E.b E.ow (E.w t_1192) dX12_appends_8 ?_
  refine lv_lload_n E.x E.b dX12_appends_11 rfl (lv_at hl 0 rfl) ?_
  refine lv_lmul E.x E.b dX12_appends_12 (z_topl 0 (by decide +kernel) ?_)
  refine lv_iload_n E.x E.b dX12_appends_13 rfl (lv_at hl 1 rfl) ?_
  refine lv_bipush (v := 97) E.x E.b dX12_appends_14 (by decide) ?_
  refine lv_isub E.x E.b dX12_appends_16 (z_topi 19 (by decide +kernel) ?_)
  refine lv_iconst (v := 1) E.x E.b dX12_appends_17 (by decide) ?_
  refine lv_iadd E.x E.b dX12_appends_18 (z_topi 20 (by decide +kernel) ?_)
  refine lv_i2l (v := 20) E.x E.b dX12_appends_19 (by decide +kernel) ?_
  refine lv_ladd E.x E.b dX12_appends_20 (z_topl 20 (by decide +kernel) ?_)
  refine W.widen (k := 0) (n := 0) (Nat.le_of_ble_eq_true rfl) (Nat.le_of_ble_eq_true rfl) ?_
  exact z_lret E hr hlocks B (v := 20) rfl (fun t ht => z_q B [] (by decide) rfl ht) dX12_appends_21
set_option maxHeartbeats 4000000 in
set_option maxRecDepth 100000 in
theorem c_X12_appends_30 (l : Launch) (G : zGT) (sz : Nat) : Met l yX12_appends (.code yX12_appends cX12_appends 3 (some .long) :: zT) ({ frames := 0, cells := 0, slots := 0, locals := 64 }) (va_Pc [.long 20, .int 97] (zPc G [] sz)) ((fun A => va_Ql (fun (r : Int64) (_ : Unit) => r = 541) (fun (_ : Unit) t => zQ G [] A t) A) (va_A [] sz)) 0 0 (va_A [] sz) := by
  refine z_start (y := yX12_appends) (bytes := cX12_appends) (maxL := 3) (ret := (some .long)) (av := [.long 20, .int 97]) (QA := (fun A => va_Ql (fun (r : Int64) (_ : Unit) => r = 541) (fun (_ : Unit) t => zQ G [] A t) A)) (by decide) ⟨Nat.le_of_ble_eq_true rfl, trivial⟩ ?_
  intro p e s m below meth c A ls E B hr hlocks hin hl
  have hl : lv_has ls 3 [(0, .long 20), (2, .int 97)] := hl
  have B : zB G A s.heap [] s.heap [] := B
  refine lv_iload_n E.x E.b dX12_appends_0 rfl (lv_at hl 1 rfl) ?_
  refine lv_if_ne (tgt := 8) E.x E.b dX12_appends_1 (by decide) (fun _ => ?_) (fun c => absurd c (by decide +kernel))
  refine lv_ldc2 E.x E.b E.ow (E.w t_1192) dX12_appends_8 ?_
  refine lv_lload_n E.x E.b dX12_appends_11 rfl (lv_at hl 0 rfl) ?_
  refine lv_lmul E.x E.b dX12_appends_12 (z_topl 540 (by decide +kernel) ?_)
  refine lv_iload_n E.x E.b dX12_appends_13 rfl (lv_at hl 1 rfl) ?_
  refine lv_bipush (v := 97) E.x E.b dX12_appends_14 (by decide) ?_
  refine lv_isub E.x E.b dX12_appends_16 (z_topi 0 (by decide +kernel) ?_)
  refine lv_iconst (v := 1) E.x E.b dX12_appends_17 (by decide) ?_
  refine lv_iadd E.x E.b dX12_appends_18 (z_topi 1 (by decide +kernel) ?_)
  refine lv_i2l (v := 1) E.x E.b dX12_appends_19 (by decide +kernel) ?_
  refine lv_ladd E.x E.b dX12_appends_20 (z_topl 541 (by decide +kernel) ?_)
  refine W.widen (k := 0) (n := 0) (Nat.le_of_ble_eq_true rfl) (Nat.le_of_ble_eq_true rfl) ?_
  exact z_lret E hr hlocks B (v := 541) rfl (fun t ht => z_q B [] (by decide) rfl ht) dX12_appends_21
set_option maxHeartbeats 4000000 in
set_option maxRecDepth 100000 in
theorem c_X12_appends_31 (l : Launch) (G : zGT) (sz : Nat) : Met l yX12_appends (.code yX12_appends cX12_appends 3 (some .long) :: zT) ({ frames := 0, cells := 0, slots := 0, locals := 64 }) (va_Pc [.long 541, .int 98] (zPc G [] sz)) ((fun A => va_Ql (fun (r : Int64) (_ : Unit) => r = 14609) (fun (_ : Unit) t => zQ G [] A t) A) (va_A [] sz)) 0 0 (va_A [] sz) := by
  refine z_start (y := yX12_appends) (bytes := cX12_appends) (maxL := 3) (ret := (some .long)) (av := [.long 541, .int 98]) (QA := (fun A => va_Ql (fun (r : Int64) (_ : Unit) => r = 14609) (fun (_ : Unit) t => zQ G [] A t) A)) (by decide) ⟨Nat.le_of_ble_eq_true rfl, trivial⟩ ?_
  intro p e s m below meth c A ls E B hr hlocks hin hl
  have hl : lv_has ls 3 [(0, .long 541), (2, .int 98)] := hl
  have B : zB G A s.heap [] s.heap [] := B
  refine lv_iload_n E.x E.b dX12_appends_0 rfl (lv_at hl 1 rfl) ?_
  refine lv_if_ne (tgt := 8) E.x E.b dX12_appends_1 (by decide) (fun _ => ?_) (fun c => absurd c (by decide +kernel))
  refine lv_ldc2 E.x E.b E.ow (E.w t_1192) dX12_appends_8 ?_
  refine lv_lload_n E.x E.b dX12_appends_11 rfl (lv_at hl 0 rfl) ?_
  refine lv_lmul E.x E.b dX12_appends_12 (z_topl 14607 (by decide +kernel) ?_)
  refine lv_iload_n E.x E.b dX12_appends_13 rfl (lv_at hl 1 rfl) ?_
  refine lv_bipush (v := 97) E.x E.b dX12_appends_14 (by decide) ?_
  refine lv_isub E.x E.b dX12_appends_16 (z_topi 1 (by decide +kernel) ?_)
  refine lv_iconst (v := 1) E.x E.b dX12_appends_17 (by decide) ?_
  refine lv_iadd E.x E.b dX12_appends_18 (z_topi 2 (by decide +kernel) ?_)
  refine lv_i2l (v := 2) E.x E.b dX12_appends_19 (by decide +kernel) ?_
  refine lv_ladd E.x E.b dX12_appends_20 (z_topl 14609 (by decide +kernel) ?_)
  refine W.widen (k := 0) (n := 0) (Nat.le_of_ble_eq_true rfl) (Nat.le_of_ble_eq_true rfl) ?_
  exact z_lret E hr hlocks B (v := 14609) rfl (fun t ht => z_q B [] (by decide) rfl ht) dX12_appends_21
set_option maxHeartbeats 4000000 in
set_option maxRecDepth 100000 in
theorem c_X12_appends_32 (l : Launch) (G : zGT) (sz : Nat) : Met l yX12_appends (.code yX12_appends cX12_appends 3 (some .long) :: zT) ({ frames := 0, cells := 0, slots := 0, locals := 64 }) (va_Pc [.long 14609, .int 108] (zPc G [] sz)) ((fun A => va_Ql (fun (r : Int64) (_ : Unit) => r = 394455) (fun (_ : Unit) t => zQ G [] A t) A) (va_A [] sz)) 0 0 (va_A [] sz) := by
  refine z_start (y := yX12_appends) (bytes := cX12_appends) (maxL := 3) (ret := (some .long)) (av := [.long 14609, .int 108]) (QA := (fun A => va_Ql (fun (r : Int64) (_ : Unit) => r = 394455) (fun (_ : Unit) t => zQ G [] A t) A)) (by decide) ⟨Nat.le_of_ble_eq_true rfl, trivial⟩ ?_
  intro p e s m below meth c A ls E B hr hlocks hin hl
  have hl : lv_has ls 3 [(0, .long 14609), (2, .int 108)] := hl
  have B : zB G A s.heap [] s.heap [] := B
  refine lv_iload_n E.x E.b dX12_appends_0 rfl (lv_at hl 1 rfl) ?_
  refine lv_if_ne (tgt := 8) E.x E.b dX12_appends_1 (by decide) (fun _ => ?_) (fun c => absurd c (by decide +kernel))
  refine lv_ldc2 E.x E.b E.ow (E.w t_1192) dX12_appends_8 ?_
  refine lv_lload_n E.x E.b dX12_appends_11 rfl (lv_at hl 0 rfl) ?_
  refine lv_lmul E.x E.b dX12_appends_12 (z_topl 394443 (by decide +kernel) ?_)
  refine lv_iload_n E.x E.b dX12_appends_13 rfl (lv_at hl 1 rfl) ?_
  refine lv_bipush (v := 97) E.x E.b dX12_appends_14 (by decide) ?_
  refine lv_isub E.x E.b dX12_appends_16 (z_topi 11 (by decide +kernel) ?_)
  refine lv_iconst (v := 1) E.x E.b dX12_appends_17 (by decide) ?_
  refine lv_iadd E.x E.b dX12_appends_18 (z_topi 12 (by decide +kernel) ?_)
  refine lv_i2l (v := 12) E.x E.b dX12_appends_19 (by decide +kernel) ?_
  refine lv_ladd E.x E.b dX12_appends_20 (z_topl 394455 (by decide +kernel) ?_)
  refine W.widen (k := 0) (n := 0) (Nat.le_of_ble_eq_true rfl) (Nat.le_of_ble_eq_true rfl) ?_
  exact z_lret E hr hlocks B (v := 394455) rfl (fun t ht => z_q B [] (by decide) rfl ht) dX12_appends_21
set_option maxHeartbeats 4000000 in
set_option maxRecDepth 100000 in
theorem c_X12_appends_33 (l : Launch) (G : zGT) (sz : Nat) : Met l yX12_appends (.code yX12_appends cX12_appends 3 (some .long) :: zT) ({ frames := 0, cells := 0, slots := 0, locals := 64 }) (va_Pc [.long 394455, .int 101] (zPc G [] sz)) ((fun A => va_Ql (fun (r : Int64) (_ : Unit) => r = 10650290) (fun (_ : Unit) t => zQ G [] A t) A) (va_A [] sz)) 0 0 (va_A [] sz) := by
  refine z_start (y := yX12_appends) (bytes := cX12_appends) (maxL := 3) (ret := (some .long)) (av := [.long 394455, .int 101]) (QA := (fun A => va_Ql (fun (r : Int64) (_ : Unit) => r = 10650290) (fun (_ : Unit) t => zQ G [] A t) A)) (by decide) ⟨Nat.le_of_ble_eq_true rfl, trivial⟩ ?_
  intro p e s m below meth c A ls E B hr hlocks hin hl
  have hl : lv_has ls 3 [(0, .long 394455), (2, .int 101)] := hl
  have B : zB G A s.heap [] s.heap [] := B
  refine lv_iload_n E.x E.b dX12_appends_0 rfl (lv_at hl 1 rfl) ?_
  refine lv_if_ne (tgt := 8) E.x E.b dX12_appends_1 (by decide) (fun _ => ?_) (fun c => absurd c (by decide +kernel))
  refine lv_ldc2 E.x E.b E.ow (E.w t_1192) dX12_appends_8 ?_
  refine lv_lload_n E.x E.b dX12_appends_11 rfl (lv_at hl 0 rfl) ?_
  refine lv_lmul E.x E.b dX12_appends_12 (z_topl 10650285 (by decide +kernel) ?_)
  refine lv_iload_n E.x E.b dX12_appends_13 rfl (lv_at hl 1 rfl) ?_
  refine lv_bipush (v := 97) E.x E.b dX12_appends_14 (by decide) ?_
  refine lv_isub E.x E.b dX12_appends_16 (z_topi 4 (by decide +kernel) ?_)
  refine lv_iconst (v := 1) E.x E.b dX12_appends_17 (by decide) ?_
  refine lv_iadd E.x E.b dX12_appends_18 (z_topi 5 (by decide +kernel) ?_)
  refine lv_i2l (v := 5) E.x E.b dX12_appends_19 (by decide +kernel) ?_
  refine lv_ladd E.x E.b dX12_appends_20 (z_topl 10650290 (by decide +kernel) ?_)
  refine W.widen (k := 0) (n := 0) (Nat.le_of_ble_eq_true rfl) (Nat.le_of_ble_eq_true rfl) ?_
  exact z_lret E hr hlocks B (v := 10650290) rfl (fun t ht => z_q B [] (by decide) rfl ht) dX12_appends_21
set_option maxHeartbeats 4000000 in
set_option maxRecDepth 100000 in
theorem c_X12_appends_34 (l : Launch) (G : zGT) (sz : Nat) : Met l yX12_appends (.code yX12_appends cX12_appends 3 (some .long) :: zT) ({ frames := 0, cells := 0, slots := 0, locals := 64 }) (va_Pc [.long 10650290, .int 0] (zPc G [] sz)) ((fun A => va_Ql (fun (r : Int64) (_ : Unit) => r = 10650290) (fun (_ : Unit) t => zQ G [] A t) A) (va_A [] sz)) 0 0 (va_A [] sz) := by
  refine z_start (y := yX12_appends) (bytes := cX12_appends) (maxL := 3) (ret := (some .long)) (av := [.long 10650290, .int 0]) (QA := (fun A => va_Ql (fun (r : Int64) (_ : Unit) => r = 10650290) (fun (_ : Unit) t => zQ G [] A t) A)) (by decide) ⟨Nat.le_of_ble_eq_true rfl, trivial⟩ ?_
  intro p e s m below meth c A ls E B hr hlocks hin hl
  have hl : lv_has ls 3 [(0, .long 10650290), (2, .int 0)] := hl
  have B : zB G A s.heap [] s.heap [] := B
  refine lv_iload_n E.x E.b dX12_appends_0 rfl (lv_at hl 1 rfl) ?_
  refine lv_if_ne (tgt := 8) E.x E.b dX12_appends_1 (by decide) (fun c => absurd (by decide +kernel) c) (fun _ => ?_)
  refine lv_lload_n E.x E.b dX12_appends_4 rfl (lv_at hl 0 rfl) ?_
  refine lv_goto (tgt := 21) E.x E.b dX12_appends_5 (by decide) ?_
  refine W.widen (k := 0) (n := 0) (Nat.le_of_ble_eq_true rfl) (Nat.le_of_ble_eq_true rfl) ?_
  exact z_lret E hr hlocks B (v := 10650290) rfl (fun t ht => z_q B [] (by decide) rfl ht) dX12_appends_21
set_option maxHeartbeats 4000000 in
set_option maxRecDepth 100000 in
theorem c_X12_letters_35 (l : Launch) (G : zGT) (sz : Nat) : Met l yX12_letters (.code yX12_letters cX12_letters 7 (some .long) :: zT) ({ frames := 1, cells := 0, slots := 0, locals := 86 }) (va_Pc [.int 116, .int 97, .int 98, .int 108, .int 101, .int 0, .int 0] (zPc G [] sz)) ((fun A => va_Ql (fun (r : Int64) (_ : Unit) => r = 10650290) (fun (_ : Unit) t => zQ G [] A t) A) (va_A [] sz)) 0 0 (va_A [] sz) := by
  refine z_start (y := yX12_letters) (bytes := cX12_letters) (maxL := 7) (ret := (some .long)) (av := [.int 116, .int 97, .int 98, .int 108, .int 101, .int 0, .int 0]) (QA := (fun A => va_Ql (fun (r : Int64) (_ : Unit) => r = 10650290) (fun (_ : Unit) t => zQ G [] A t) A)) (by decide) ⟨Nat.le_of_ble_eq_true rfl, trivial⟩ ?_
  intro p e s m below meth c A ls E B hr hlocks hin hl
  have hl : lv_has ls 7 [(0, .int 116), (1, .int 97), (2, .int 98), (3, .int 108), (4, .int 101), (5, .int 0), (6, .int 0)] := hl
  have B : zB G A s.heap [] s.heap [] := B
  refine lv_lconst (v := 0) E.x E.b dX12_letters_0 (by decide) ?_
  refine lv_iload_n E.x E.b dX12_letters_1 rfl (lv_at hl 0 rfl) ?_
  refine z_calll E B (wc := []) (wr := []) [] [] rfl rfl (by decide) (by decide) (z_runS E B (As := [.long 0, .int 116]) (rest := []) [] rfl (by decide) ms_X12_appends t_1189 (c_X12_appends_29 l G _) rfl rfl ⟨Nat.le_of_ble_eq_true rfl, Nat.le_of_ble_eq_true rfl⟩ rfl hl.1 rfl (Nat.le_of_ble_eq_true rfl) dX12_letters_2 ⟨(Nat.le_of_ble_eq_true rfl), (Nat.le_of_ble_eq_true rfl)⟩) (fun r t H locs hp hB J => ?_)
  have hq := hB
  have B := J _ hq
  have B : zB G A s.heap [] _ _ := B
  have hp := hp.symm
  subst hp
  refine lv_iload_n E.x E.b dX12_letters_5 rfl (lv_at hl 1 rfl) ?_
  refine z_calll E B (wc := []) (wr := []) [] [] rfl rfl (by decide) (by decide) (z_runS E B (As := [.long 20, .int 97]) (rest := []) [] rfl (by decide) ms_X12_appends t_1189 (c_X12_appends_30 l G _) rfl rfl ⟨Nat.le_of_ble_eq_true rfl, Nat.le_of_ble_eq_true rfl⟩ rfl hl.1 rfl (Nat.le_of_ble_eq_true rfl) dX12_letters_6 ⟨(Nat.le_of_ble_eq_true rfl), (Nat.le_of_ble_eq_true rfl)⟩) (fun r t H locs hp hB J => ?_)
  have hq := hB
  have B := J _ hq
  have B : zB G A s.heap [] _ _ := B
  have hp := hp.symm
  subst hp
  refine lv_iload_n E.x E.b dX12_letters_9 rfl (lv_at hl 2 rfl) ?_
  refine z_calll E B (wc := []) (wr := []) [] [] rfl rfl (by decide) (by decide) (z_runS E B (As := [.long 541, .int 98]) (rest := []) [] rfl (by decide) ms_X12_appends t_1189 (c_X12_appends_31 l G _) rfl rfl ⟨Nat.le_of_ble_eq_true rfl, Nat.le_of_ble_eq_true rfl⟩ rfl hl.1 rfl (Nat.le_of_ble_eq_true rfl) dX12_letters_10 ⟨(Nat.le_of_ble_eq_true rfl), (Nat.le_of_ble_eq_true rfl)⟩) (fun r t H locs hp hB J => ?_)
  have hq := hB
  have B := J _ hq
  have B : zB G A s.heap [] _ _ := B
  have hp := hp.symm
  subst hp
  refine lv_iload_n E.x E.b dX12_letters_13 rfl (lv_at hl 3 rfl) ?_
  refine z_calll E B (wc := []) (wr := []) [] [] rfl rfl (by decide) (by decide) (z_runS E B (As := [.long 14609, .int 108]) (rest := []) [] rfl (by decide) ms_X12_appends t_1189 (c_X12_appends_32 l G _) rfl rfl ⟨Nat.le_of_ble_eq_true rfl, Nat.le_of_ble_eq_true rfl⟩ rfl hl.1 rfl (Nat.le_of_ble_eq_true rfl) dX12_letters_14 ⟨(Nat.le_of_ble_eq_true rfl), (Nat.le_of_ble_eq_true rfl)⟩) (fun r t H locs hp hB J => ?_)
  have hq := hB
  have B := J _ hq
  have B : zB G A s.heap [] _ _ := B
  have hp := hp.symm
  subst hp
  refine lv_iload E.x E.b dX12_letters_17 (lv_at hl 4 rfl) ?_
  refine z_calll E B (wc := []) (wr := []) [] [] rfl rfl (by decide) (by decide) (z_runS E B (As := [.long 394455, .int 101]) (rest := []) [] rfl (by decide) ms_X12_appends t_1189 (c_X12_appends_33 l G _) rfl rfl ⟨Nat.le_of_ble_eq_true rfl, Nat.le_of_ble_eq_true rfl⟩ rfl hl.1 rfl (Nat.le_of_ble_eq_true rfl) dX12_letters_19 ⟨(Nat.le_of_ble_eq_true rfl), (Nat.le_of_ble_eq_true rfl)⟩) (fun r t H locs hp hB J => ?_)
  have hq := hB
  have B := J _ hq
  have B : zB G A s.heap [] _ _ := B
  have hp := hp.symm
  subst hp
  refine lv_iload E.x E.b dX12_letters_22 (lv_at hl 5 rfl) ?_
  refine z_calll E B (wc := []) (wr := []) [] [] rfl rfl (by decide) (by decide) (z_runS E B (As := [.long 10650290, .int 0]) (rest := []) [] rfl (by decide) ms_X12_appends t_1189 (c_X12_appends_34 l G _) rfl rfl ⟨Nat.le_of_ble_eq_true rfl, Nat.le_of_ble_eq_true rfl⟩ rfl hl.1 rfl (Nat.le_of_ble_eq_true rfl) dX12_letters_24 ⟨(Nat.le_of_ble_eq_true rfl), (Nat.le_of_ble_eq_true rfl)⟩) (fun r t H locs hp hB J => ?_)
  have hq := hB
  have B := J _ hq
  have B : zB G A s.heap [] _ _ := B
  have hp := hp.symm
  subst hp
  refine lv_iload E.x E.b dX12_letters_27 (lv_at hl 6 rfl) ?_
  refine z_calll E B (wc := []) (wr := []) [] [] rfl rfl (by decide) (by decide) (z_runS E B (As := [.long 10650290, .int 0]) (rest := []) [] rfl (by decide) ms_X12_appends t_1189 (c_X12_appends_34 l G _) rfl rfl ⟨Nat.le_of_ble_eq_true rfl, Nat.le_of_ble_eq_true rfl⟩ rfl hl.1 rfl (Nat.le_of_ble_eq_true rfl) dX12_letters_29 ⟨(Nat.le_of_ble_eq_true rfl), (Nat.le_of_ble_eq_true rfl)⟩) (fun r t H locs hp hB J => ?_)
  have hq := hB
  have B := J _ hq
  have B : zB G A s.heap [] _ _ := B
  have hp := hp.symm
  subst hp
  refine W.widen (k := 0) (n := 0) (Nat.le_of_ble_eq_true rfl) (Nat.le_of_ble_eq_true rfl) ?_
  exact z_lret E hr hlocks B (v := 10650290) rfl (fun t ht => z_q B [] (by decide) rfl ht) dX12_letters_32
set_option maxHeartbeats 4000000 in
set_option maxRecDepth 100000 in
theorem c_X8_hasRoomFor_36 (l : Launch) (G : zGT) (sz : Nat) (a0 a1 a2 a3 a4 : Nat) : Met l yX8_hasRoomFor (.code yX8_hasRoomFor cX8_hasRoomFor 2 (some .boolean) :: zT) ({ frames := 0, cells := 0, slots := 0, locals := 64 }) (va_Pc [.ref a0, .int 20] (zPc G [zo a0 6 [.ref a1, .ref a2, .ref a3, .ref a4, .int 0, .int 0, .int 0, .int 0, .int 0, .long 0]] sz)) ((fun A => va_Qi (fun (r : Int32) (_ : Unit) => r = 1) (fun (_ : Unit) t => zQ G [zo a0 6 [.ref a1, .ref a2, .ref a3, .ref a4, .int 0, .int 0, .int 0, .int 0, .int 0, .long 0]] A t) A) (va_A [zo a0 6 [.ref a1, .ref a2, .ref a3, .ref a4, .int 0, .int 0, .int 0, .int 0, .int 0, .long 0]] sz)) 0 0 (va_A [zo a0 6 [.ref a1, .ref a2, .ref a3, .ref a4, .int 0, .int 0, .int 0, .int 0, .int 0, .long 0]] sz) := by
  refine z_start (y := yX8_hasRoomFor) (bytes := cX8_hasRoomFor) (maxL := 2) (ret := (some .boolean)) (av := [.ref a0, .int 20]) (QA := (fun A => va_Qi (fun (r : Int32) (_ : Unit) => r = 1) (fun (_ : Unit) t => zQ G [zo a0 6 [.ref a1, .ref a2, .ref a3, .ref a4, .int 0, .int 0, .int 0, .int 0, .int 0, .long 0]] A t) A)) (by decide) ⟨Nat.le_of_ble_eq_true rfl, trivial⟩ ?_
  intro p e s m below meth c A ls E B hr hlocks hin hl
  have hl : lv_has ls 2 [(0, .ref a0), (1, .int 20)] := hl
  have B : zB G A s.heap [zo a0 6 [.ref a1, .ref a2, .ref a3, .ref a4, .int 0, .int 0, .int 0, .int 0, .int 0, .long 0]] s.heap [] := B
  refine lv_aload_n E.x E.b dX8_hasRoomFor_0 rfl (lv_at hl 0 rfl) ?_
  refine z_get E B z_inX8 (ci := 6) rfl 4 (by decide) t_160 0 rfl rfl dX8_hasRoomFor_1 ?_
  refine lv_iload_n E.x E.b dX8_hasRoomFor_4 rfl (lv_at hl 1 rfl) ?_
  refine lv_iadd E.x E.b dX8_hasRoomFor_5 (z_topi 20 (by decide +kernel) ?_)
  refine lv_sipush (v := 2000) E.x E.b dX8_hasRoomFor_6 (by decide) ?_
  refine lv_icmp_gt (tgt := 16) E.x E.b dX8_hasRoomFor_9 (by decide) (fun c => absurd c (by decide +kernel)) (fun _ => ?_)
  refine lv_iconst (v := 1) E.x E.b dX8_hasRoomFor_12 (by decide) ?_
  refine lv_goto (tgt := 17) E.x E.b dX8_hasRoomFor_13 (by decide) ?_
  refine W.widen (k := 0) (n := 0) (Nat.le_of_ble_eq_true rfl) (Nat.le_of_ble_eq_true rfl) ?_
  exact z_zret E hr hlocks B (v := 1) rfl rfl (fun t ht => z_q B [0] (by decide) rfl ht) dX8_hasRoomFor_17
set_option maxHeartbeats 4000000 in
set_option maxRecDepth 100000 in
theorem c_X8_addWord_37 (l : Launch) (G : zGT) (sz : Nat) (a0 a1 a2 a3 a4 : Nat) (p0 : Int32) : Met l yX8_addWord (.code yX8_addWord cX8_addWord 3 none :: zT) ({ frames := 0, cells := 0, slots := 0, locals := 64 }) (va_Pc [.ref a0, .int p0] (zPc G [zo a0 6 [.ref a1, .ref a2, .ref a3, .ref a4, .int 0, .int 0, .int 0, .int 0, .int 0, .long 0], zb G a1 2000 (fun _ => 0)] sz)) ((fun A => va_Qv (fun (_ : Unit) => True) (fun (_ : Unit) t => ∃ (F1 : Nat → Int32), zQ G [zo a0 6 [.ref a1, .ref a2, .ref a3, .ref a4, .int 4, .int 0, .int 0, .int 0, .int 0, .long 0], zb G a1 2000 F1] A t) A) (va_A [zo a0 6 [.ref a1, .ref a2, .ref a3, .ref a4, .int 0, .int 0, .int 0, .int 0, .int 0, .long 0], zb G a1 2000 (fun _ => 0)] sz)) 0 0 (va_A [zo a0 6 [.ref a1, .ref a2, .ref a3, .ref a4, .int 0, .int 0, .int 0, .int 0, .int 0, .long 0], zb G a1 2000 (fun _ => 0)] sz) := by
  refine z_start (y := yX8_addWord) (bytes := cX8_addWord) (maxL := 3) (ret := none) (av := [.ref a0, .int p0]) (QA := (fun A => va_Qv (fun (_ : Unit) => True) (fun (_ : Unit) t => ∃ (F1 : Nat → Int32), zQ G [zo a0 6 [.ref a1, .ref a2, .ref a3, .ref a4, .int 4, .int 0, .int 0, .int 0, .int 0, .long 0], zb G a1 2000 F1] A t) A)) (by decide) ⟨Nat.le_of_ble_eq_true rfl, trivial⟩ ?_
  intro p e s m below meth c A ls E B hr hlocks hin hl
  have hl : lv_has ls 3 [(0, .ref a0), (1, .int p0)] := hl
  have B : zB G A s.heap [zo a0 6 [.ref a1, .ref a2, .ref a3, .ref a4, .int 0, .int 0, .int 0, .int 0, .int 0, .long 0], zb G a1 2000 (fun _ => 0)] s.heap [] := B
  refine lv_bipush (v := 24) E.x E.b dX8_addWord_0 (by decide) ?_
  refine lv_istore_n (lv' := [(2, .int 24), (0, .ref a0), (1, .int p0)]) E.x E.b dX8_addWord_2 rfl hl (by decide) rfl (fun ls hl => ?_)
  refine lv_iload_n E.x E.b dX8_addWord_3 rfl (lv_at hl 0 rfl) ?_
  refine lv_if_lt (tgt := 46) E.x E.b dX8_addWord_4 (by decide) (fun c => absurd c (by decide +kernel)) (fun _ => ?_)
  refine lv_aload_n E.x E.b dX8_addWord_7 rfl (lv_at hl 1 rfl) ?_
  refine z_get E B z_inX8 (ci := 6) rfl 4 (by decide) t_160 0 rfl rfl dX8_addWord_8 ?_
  refine lv_sipush (v := 2000) E.x E.b dX8_addWord_11 (by decide) ?_
  refine lv_icmp_ge (tgt := 40) E.x E.b dX8_addWord_14 (by decide) (fun c => absurd c (by decide +kernel)) (fun _ => ?_)
  refine lv_aload_n E.x E.b dX8_addWord_17 rfl (lv_at hl 1 rfl) ?_
  refine z_get E B z_inX8 (ci := 6) rfl 0 (by decide) t_156 0 rfl rfl dX8_addWord_18 ?_
  refine lv_aload_n E.x E.b dX8_addWord_21 rfl (lv_at hl 1 rfl) ?_
  refine z_get E B z_inX8 (ci := 6) rfl 4 (by decide) t_160 0 rfl rfl dX8_addWord_22 ?_
  refine lv_iload_n E.x E.b dX8_addWord_25 rfl (lv_at hl 2 rfl) ?_
  refine lv_iload_n E.x E.b dX8_addWord_26 rfl (lv_at hl 0 rfl) ?_
  refine lv_iushr (v := _) E.x E.b dX8_addWord_27 rfl ?_
  refine lv_topi (fun x_1 _ => ?_)
  refine lv_i2b (v := _) E.x E.b dX8_addWord_28 rfl ?_
  refine lv_topi (fun x_2 _ => ?_)
  refine z_bast E B 1 rfl (show ¬ ((0 : Int32) < 0 ∨ 2000 ≤ (0 : Int32).toNatClampNeg) by decide +kernel) dX8_addWord_29 (fun H locs g_3 B => ?_)
  have B : zB G A s.heap [zo a0 6 [.ref a1, .ref a2, .ref a3, .ref a4, .int 0, .int 0, .int 0, .int 0, .int 0, .long 0], zb G a1 2000 g_3] _ _ := B
  refine lv_aload_n E.x E.b dX8_addWord_30 rfl (lv_at hl 1 rfl) ?_
  refine lv_dup E.x E.b dX8_addWord_31 rfl ?_
  refine z_get E B z_inX8 (ci := 6) rfl 4 (by decide) t_160 0 rfl rfl dX8_addWord_32 ?_
  refine lv_iconst (v := 1) E.x E.b dX8_addWord_35 (by decide) ?_
  refine lv_iadd E.x E.b dX8_addWord_36 (z_topi 1 (by decide +kernel) ?_)
  refine z_put E B z_inX8 tyX8 tyX8_ok nmX8 (ci := 6) rfl 4 (by decide) rfl (ty := .int) (by decide +kernel) t_160 0 rfl (Nat.le_of_ble_eq_true rfl) rfl rfl dX8_addWord_37 (fun H locs B => ?_)
  have B : zB G A s.heap [zo a0 6 [.ref a1, .ref a2, .ref a3, .ref a4, .int 1, .int 0, .int 0, .int 0, .int 0, .long 0], zb G a1 2000 g_3] _ _ := B
  refine lv_iinc (v := 16) (lv' := [(2, .int 16), (0, .ref a0), (1, .int p0)]) E.x E.b dX8_addWord_40 hl (k := 0) rfl (by decide +kernel) (by decide) rfl (fun ls hl => ?_)
  refine lv_goto (tgt := 3) E.x E.b dX8_addWord_43 (by decide) ?_
  refine lv_iload_n E.x E.b dX8_addWord_3 rfl (lv_at hl 0 rfl) ?_
  refine lv_if_lt (tgt := 46) E.x E.b dX8_addWord_4 (by decide) (fun c => absurd c (by decide +kernel)) (fun _ => ?_)
  refine lv_aload_n E.x E.b dX8_addWord_7 rfl (lv_at hl 1 rfl) ?_
  refine z_get E B z_inX8 (ci := 6) rfl 4 (by decide) t_160 0 rfl rfl dX8_addWord_8 ?_
  refine lv_sipush (v := 2000) E.x E.b dX8_addWord_11 (by decide) ?_
  refine lv_icmp_ge (tgt := 40) E.x E.b dX8_addWord_14 (by decide) (fun c => absurd c (by decide +kernel)) (fun _ => ?_)
  refine lv_aload_n E.x E.b dX8_addWord_17 rfl (lv_at hl 1 rfl) ?_
  refine z_get E B z_inX8 (ci := 6) rfl 0 (by decide) t_156 0 rfl rfl dX8_addWord_18 ?_
  refine lv_aload_n E.x E.b dX8_addWord_21 rfl (lv_at hl 1 rfl) ?_
  refine z_get E B z_inX8 (ci := 6) rfl 4 (by decide) t_160 0 rfl rfl dX8_addWord_22 ?_
  refine lv_iload_n E.x E.b dX8_addWord_25 rfl (lv_at hl 2 rfl) ?_
  refine lv_iload_n E.x E.b dX8_addWord_26 rfl (lv_at hl 0 rfl) ?_
  refine lv_iushr (v := _) E.x E.b dX8_addWord_27 rfl ?_
  refine lv_topi (fun x_4 _ => ?_)
  refine lv_i2b (v := _) E.x E.b dX8_addWord_28 rfl ?_
  refine lv_topi (fun x_5 _ => ?_)
  refine z_bast E B 1 rfl (show ¬ ((1 : Int32) < 0 ∨ 2000 ≤ (1 : Int32).toNatClampNeg) by decide +kernel) dX8_addWord_29 (fun H locs g_6 B => ?_)
  have B : zB G A s.heap [zo a0 6 [.ref a1, .ref a2, .ref a3, .ref a4, .int 1, .int 0, .int 0, .int 0, .int 0, .long 0], zb G a1 2000 g_6] _ _ := B
  refine lv_aload_n E.x E.b dX8_addWord_30 rfl (lv_at hl 1 rfl) ?_
  refine lv_dup E.x E.b dX8_addWord_31 rfl ?_
  refine z_get E B z_inX8 (ci := 6) rfl 4 (by decide) t_160 0 rfl rfl dX8_addWord_32 ?_
  refine lv_iconst (v := 1) E.x E.b dX8_addWord_35 (by decide) ?_
  refine lv_iadd E.x E.b dX8_addWord_36 (z_topi 2 (by decide +kernel) ?_)
  refine z_put E B z_inX8 tyX8 tyX8_ok nmX8 (ci := 6) rfl 4 (by decide) rfl (ty := .int) (by decide +kernel) t_160 0 rfl (Nat.le_of_ble_eq_true rfl) rfl rfl dX8_addWord_37 (fun H locs B => ?_)
  have B : zB G A s.heap [zo a0 6 [.ref a1, .ref a2, .ref a3, .ref a4, .int 2, .int 0, .int 0, .int 0, .int 0, .long 0], zb G a1 2000 g_6] _ _ := B
  refine lv_iinc (v := 8) (lv' := [(2, .int 8), (0, .ref a0), (1, .int p0)]) E.x E.b dX8_addWord_40 hl (k := 0) rfl (by decide +kernel) (by decide) rfl (fun ls hl => ?_)
  refine lv_goto (tgt := 3) E.x E.b dX8_addWord_43 (by decide) ?_
  refine lv_iload_n E.x E.b dX8_addWord_3 rfl (lv_at hl 0 rfl) ?_
  refine lv_if_lt (tgt := 46) E.x E.b dX8_addWord_4 (by decide) (fun c => absurd c (by decide +kernel)) (fun _ => ?_)
  refine lv_aload_n E.x E.b dX8_addWord_7 rfl (lv_at hl 1 rfl) ?_
  refine z_get E B z_inX8 (ci := 6) rfl 4 (by decide) t_160 0 rfl rfl dX8_addWord_8 ?_
  refine lv_sipush (v := 2000) E.x E.b dX8_addWord_11 (by decide) ?_
  refine lv_icmp_ge (tgt := 40) E.x E.b dX8_addWord_14 (by decide) (fun c => absurd c (by decide +kernel)) (fun _ => ?_)
  refine lv_aload_n E.x E.b dX8_addWord_17 rfl (lv_at hl 1 rfl) ?_
  refine z_get E B z_inX8 (ci := 6) rfl 0 (by decide) t_156 0 rfl rfl dX8_addWord_18 ?_
  refine lv_aload_n E.x E.b dX8_addWord_21 rfl (lv_at hl 1 rfl) ?_
  refine z_get E B z_inX8 (ci := 6) rfl 4 (by decide) t_160 0 rfl rfl dX8_addWord_22 ?_
  refine lv_iload_n E.x E.b dX8_addWord_25 rfl (lv_at hl 2 rfl) ?_
  refine lv_iload_n E.x E.b dX8_addWord_26 rfl (lv_at hl 0 rfl) ?_
  refine lv_iushr (v := _) E.x E.b dX8_addWord_27 rfl ?_
  refine lv_topi (fun x_7 _ => ?_)
  refine lv_i2b (v := _) E.x E.b dX8_addWord_28 rfl ?_
  refine lv_topi (fun x_8 _ => ?_)
  refine z_bast E B 1 rfl (show ¬ ((2 : Int32) < 0 ∨ 2000 ≤ (2 : Int32).toNatClampNeg) by decide +kernel) dX8_addWord_29 (fun H locs g_9 B => ?_)
  have B : zB G A s.heap [zo a0 6 [.ref a1, .ref a2, .ref a3, .ref a4, .int 2, .int 0, .int 0, .int 0, .int 0, .long 0], zb G a1 2000 g_9] _ _ := B
  refine lv_aload_n E.x E.b dX8_addWord_30 rfl (lv_at hl 1 rfl) ?_
  refine lv_dup E.x E.b dX8_addWord_31 rfl ?_
  refine z_get E B z_inX8 (ci := 6) rfl 4 (by decide) t_160 0 rfl rfl dX8_addWord_32 ?_
  refine lv_iconst (v := 1) E.x E.b dX8_addWord_35 (by decide) ?_
  refine lv_iadd E.x E.b dX8_addWord_36 (z_topi 3 (by decide +kernel) ?_)
  refine z_put E B z_inX8 tyX8 tyX8_ok nmX8 (ci := 6) rfl 4 (by decide) rfl (ty := .int) (by decide +kernel) t_160 0 rfl (Nat.le_of_ble_eq_true rfl) rfl rfl dX8_addWord_37 (fun H locs B => ?_)
  have B : zB G A s.heap [zo a0 6 [.ref a1, .ref a2, .ref a3, .ref a4, .int 3, .int 0, .int 0, .int 0, .int 0, .long 0], zb G a1 2000 g_9] _ _ := B
  refine lv_iinc (v := 0) (lv' := [(2, .int 0), (0, .ref a0), (1, .int p0)]) E.x E.b dX8_addWord_40 hl (k := 0) rfl (by decide +kernel) (by decide) rfl (fun ls hl => ?_)
  refine lv_goto (tgt := 3) E.x E.b dX8_addWord_43 (by decide) ?_
  refine lv_iload_n E.x E.b dX8_addWord_3 rfl (lv_at hl 0 rfl) ?_
  refine lv_if_lt (tgt := 46) E.x E.b dX8_addWord_4 (by decide) (fun c => absurd c (by decide +kernel)) (fun _ => ?_)
  refine lv_aload_n E.x E.b dX8_addWord_7 rfl (lv_at hl 1 rfl) ?_
  refine z_get E B z_inX8 (ci := 6) rfl 4 (by decide) t_160 0 rfl rfl dX8_addWord_8 ?_
  refine lv_sipush (v := 2000) E.x E.b dX8_addWord_11 (by decide) ?_
  refine lv_icmp_ge (tgt := 40) E.x E.b dX8_addWord_14 (by decide) (fun c => absurd c (by decide +kernel)) (fun _ => ?_)
  refine lv_aload_n E.x E.b dX8_addWord_17 rfl (lv_at hl 1 rfl) ?_
  refine z_get E B z_inX8 (ci := 6) rfl 0 (by decide) t_156 0 rfl rfl dX8_addWord_18 ?_
  refine lv_aload_n E.x E.b dX8_addWord_21 rfl (lv_at hl 1 rfl) ?_
  refine z_get E B z_inX8 (ci := 6) rfl 4 (by decide) t_160 0 rfl rfl dX8_addWord_22 ?_
  refine lv_iload_n E.x E.b dX8_addWord_25 rfl (lv_at hl 2 rfl) ?_
  refine lv_iload_n E.x E.b dX8_addWord_26 rfl (lv_at hl 0 rfl) ?_
  refine lv_iushr (v := _) E.x E.b dX8_addWord_27 rfl ?_
  refine lv_topi (fun x_10 _ => ?_)
  refine lv_i2b (v := _) E.x E.b dX8_addWord_28 rfl ?_
  refine lv_topi (fun x_11 _ => ?_)
  refine z_bast E B 1 rfl (show ¬ ((3 : Int32) < 0 ∨ 2000 ≤ (3 : Int32).toNatClampNeg) by decide +kernel) dX8_addWord_29 (fun H locs g_12 B => ?_)
  have B : zB G A s.heap [zo a0 6 [.ref a1, .ref a2, .ref a3, .ref a4, .int 3, .int 0, .int 0, .int 0, .int 0, .long 0], zb G a1 2000 g_12] _ _ := B
  refine lv_aload_n E.x E.b dX8_addWord_30 rfl (lv_at hl 1 rfl) ?_
  refine lv_dup E.x E.b dX8_addWord_31 rfl ?_
  refine z_get E B z_inX8 (ci := 6) rfl 4 (by decide) t_160 0 rfl rfl dX8_addWord_32 ?_
  refine lv_iconst (v := 1) E.x E.b dX8_addWord_35 (by decide) ?_
  refine lv_iadd E.x E.b dX8_addWord_36 (z_topi 4 (by decide +kernel) ?_)
  refine z_put E B z_inX8 tyX8 tyX8_ok nmX8 (ci := 6) rfl 4 (by decide) rfl (ty := .int) (by decide +kernel) t_160 0 rfl (Nat.le_of_ble_eq_true rfl) rfl rfl dX8_addWord_37 (fun H locs B => ?_)
  have B : zB G A s.heap [zo a0 6 [.ref a1, .ref a2, .ref a3, .ref a4, .int 4, .int 0, .int 0, .int 0, .int 0, .long 0], zb G a1 2000 g_12] _ _ := B
  refine lv_iinc (v := (-8)) (lv' := [(2, .int (-8)), (0, .ref a0), (1, .int p0)]) E.x E.b dX8_addWord_40 hl (k := 0) rfl (by decide +kernel) (by decide) rfl (fun ls hl => ?_)
  refine lv_goto (tgt := 3) E.x E.b dX8_addWord_43 (by decide) ?_
  refine lv_iload_n E.x E.b dX8_addWord_3 rfl (lv_at hl 0 rfl) ?_
  refine lv_if_lt (tgt := 46) E.x E.b dX8_addWord_4 (by decide) (fun _ => ?_) (fun c => absurd (by decide +kernel) c)
  refine W.widen (k := 0) (n := 0) (Nat.le_of_ble_eq_true rfl) (Nat.le_of_ble_eq_true rfl) ?_
  exact z_vret E hr hlocks B trivial (fun t ht => ⟨_, z_q B [0, 1] (by decide) rfl ht⟩) dX8_addWord_46
set_option maxHeartbeats 4000000 in
set_option maxRecDepth 100000 in
theorem c_X8_addWord_38 (l : Launch) (G : zGT) (sz : Nat) (a0 a1 a2 a3 a4 : Nat) (p0 : Int32) (f0 : Nat → Int32) : Met l yX8_addWord (.code yX8_addWord cX8_addWord 3 none :: zT) ({ frames := 0, cells := 0, slots := 0, locals := 64 }) (va_Pc [.ref a0, .int p0] (zPc G [zo a0 6 [.ref a1, .ref a2, .ref a3, .ref a4, .int 4, .int 0, .int 0, .int 0, .int 0, .long 0], zb G a1 2000 f0] sz)) ((fun A => va_Qv (fun (_ : Unit) => True) (fun (_ : Unit) t => ∃ (F1 : Nat → Int32), zQ G [zo a0 6 [.ref a1, .ref a2, .ref a3, .ref a4, .int 8, .int 0, .int 0, .int 0, .int 0, .long 0], zb G a1 2000 F1] A t) A) (va_A [zo a0 6 [.ref a1, .ref a2, .ref a3, .ref a4, .int 4, .int 0, .int 0, .int 0, .int 0, .long 0], zb G a1 2000 f0] sz)) 0 0 (va_A [zo a0 6 [.ref a1, .ref a2, .ref a3, .ref a4, .int 4, .int 0, .int 0, .int 0, .int 0, .long 0], zb G a1 2000 f0] sz) := by
  refine z_start (y := yX8_addWord) (bytes := cX8_addWord) (maxL := 3) (ret := none) (av := [.ref a0, .int p0]) (QA := (fun A => va_Qv (fun (_ : Unit) => True) (fun (_ : Unit) t => ∃ (F1 : Nat → Int32), zQ G [zo a0 6 [.ref a1, .ref a2, .ref a3, .ref a4, .int 8, .int 0, .int 0, .int 0, .int 0, .long 0], zb G a1 2000 F1] A t) A)) (by decide) ⟨Nat.le_of_ble_eq_true rfl, trivial⟩ ?_
  intro p e s m below meth c A ls E B hr hlocks hin hl
  have hl : lv_has ls 3 [(0, .ref a0), (1, .int p0)] := hl
  have B : zB G A s.heap [zo a0 6 [.ref a1, .ref a2, .ref a3, .ref a4, .int 4, .int 0, .int 0, .int 0, .int 0, .long 0], zb G a1 2000 f0] s.heap [] := B
  refine lv_bipush (v := 24) E.x E.b dX8_addWord_0 (by decide) ?_
  refine lv_istore_n (lv' := [(2, .int 24), (0, .ref a0), (1, .int p0)]) E.x E.b dX8_addWord_2 rfl hl (by decide) rfl (fun ls hl => ?_)
  refine lv_iload_n E.x E.b dX8_addWord_3 rfl (lv_at hl 0 rfl) ?_
  refine lv_if_lt (tgt := 46) E.x E.b dX8_addWord_4 (by decide) (fun c => absurd c (by decide +kernel)) (fun _ => ?_)
  refine lv_aload_n E.x E.b dX8_addWord_7 rfl (lv_at hl 1 rfl) ?_
  refine z_get E B z_inX8 (ci := 6) rfl 4 (by decide) t_160 0 rfl rfl dX8_addWord_8 ?_
  refine lv_sipush (v := 2000) E.x E.b dX8_addWord_11 (by decide) ?_
  refine lv_icmp_ge (tgt := 40) E.x E.b dX8_addWord_14 (by decide) (fun c => absurd c (by decide +kernel)) (fun _ => ?_)
  refine lv_aload_n E.x E.b dX8_addWord_17 rfl (lv_at hl 1 rfl) ?_
  refine z_get E B z_inX8 (ci := 6) rfl 0 (by decide) t_156 0 rfl rfl dX8_addWord_18 ?_
  refine lv_aload_n E.x E.b dX8_addWord_21 rfl (lv_at hl 1 rfl) ?_
  refine z_get E B z_inX8 (ci := 6) rfl 4 (by decide) t_160 0 rfl rfl dX8_addWord_22 ?_
  refine lv_iload_n E.x E.b dX8_addWord_25 rfl (lv_at hl 2 rfl) ?_
  refine lv_iload_n E.x E.b dX8_addWord_26 rfl (lv_at hl 0 rfl) ?_
  refine lv_iushr (v := _) E.x E.b dX8_addWord_27 rfl ?_
  refine lv_topi (fun x_1 _ => ?_)
  refine lv_i2b (v := _) E.x E.b dX8_addWord_28 rfl ?_
  refine lv_topi (fun x_2 _ => ?_)
  refine z_bast E B 1 rfl (show ¬ ((4 : Int32) < 0 ∨ 2000 ≤ (4 : Int32).toNatClampNeg) by decide +kernel) dX8_addWord_29 (fun H locs g_3 B => ?_)
  have B : zB G A s.heap [zo a0 6 [.ref a1, .ref a2, .ref a3, .ref a4, .int 4, .int 0, .int 0, .int 0, .int 0, .long 0], zb G a1 2000 g_3] _ _ := B
  refine lv_aload_n E.x E.b dX8_addWord_30 rfl (lv_at hl 1 rfl) ?_
  refine lv_dup E.x E.b dX8_addWord_31 rfl ?_
  refine z_get E B z_inX8 (ci := 6) rfl 4 (by decide) t_160 0 rfl rfl dX8_addWord_32 ?_
  refine lv_iconst (v := 1) E.x E.b dX8_addWord_35 (by decide) ?_
  refine lv_iadd E.x E.b dX8_addWord_36 (z_topi 5 (by decide +kernel) ?_)
  refine z_put E B z_inX8 tyX8 tyX8_ok nmX8 (ci := 6) rfl 4 (by decide) rfl (ty := .int) (by decide +kernel) t_160 0 rfl (Nat.le_of_ble_eq_true rfl) rfl rfl dX8_addWord_37 (fun H locs B => ?_)
  have B : zB G A s.heap [zo a0 6 [.ref a1, .ref a2, .ref a3, .ref a4, .int 5, .int 0, .int 0, .int 0, .int 0, .long 0], zb G a1 2000 g_3] _ _ := B
  refine lv_iinc (v := 16) (lv' := [(2, .int 16), (0, .ref a0), (1, .int p0)]) E.x E.b dX8_addWord_40 hl (k := 0) rfl (by decide +kernel) (by decide) rfl (fun ls hl => ?_)
  refine lv_goto (tgt := 3) E.x E.b dX8_addWord_43 (by decide) ?_
  refine lv_iload_n E.x E.b dX8_addWord_3 rfl (lv_at hl 0 rfl) ?_
  refine lv_if_lt (tgt := 46) E.x E.b dX8_addWord_4 (by decide) (fun c => absurd c (by decide +kernel)) (fun _ => ?_)
  refine lv_aload_n E.x E.b dX8_addWord_7 rfl (lv_at hl 1 rfl) ?_
  refine z_get E B z_inX8 (ci := 6) rfl 4 (by decide) t_160 0 rfl rfl dX8_addWord_8 ?_
  refine lv_sipush (v := 2000) E.x E.b dX8_addWord_11 (by decide) ?_
  refine lv_icmp_ge (tgt := 40) E.x E.b dX8_addWord_14 (by decide) (fun c => absurd c (by decide +kernel)) (fun _ => ?_)
  refine lv_aload_n E.x E.b dX8_addWord_17 rfl (lv_at hl 1 rfl) ?_
  refine z_get E B z_inX8 (ci := 6) rfl 0 (by decide) t_156 0 rfl rfl dX8_addWord_18 ?_
  refine lv_aload_n E.x E.b dX8_addWord_21 rfl (lv_at hl 1 rfl) ?_
  refine z_get E B z_inX8 (ci := 6) rfl 4 (by decide) t_160 0 rfl rfl dX8_addWord_22 ?_
  refine lv_iload_n E.x E.b dX8_addWord_25 rfl (lv_at hl 2 rfl) ?_
  refine lv_iload_n E.x E.b dX8_addWord_26 rfl (lv_at hl 0 rfl) ?_
  refine lv_iushr (v := _) E.x E.b dX8_addWord_27 rfl ?_
  refine lv_topi (fun x_4 _ => ?_)
  refine lv_i2b (v := _) E.x E.b dX8_addWord_28 rfl ?_
  refine lv_topi (fun x_5 _ => ?_)
  refine z_bast E B 1 rfl (show ¬ ((5 : Int32) < 0 ∨ 2000 ≤ (5 : Int32).toNatClampNeg) by decide +kernel) dX8_addWord_29 (fun H locs g_6 B => ?_)
  have B : zB G A s.heap [zo a0 6 [.ref a1, .ref a2, .ref a3, .ref a4, .int 5, .int 0, .int 0, .int 0, .int 0, .long 0], zb G a1 2000 g_6] _ _ := B
  refine lv_aload_n E.x E.b dX8_addWord_30 rfl (lv_at hl 1 rfl) ?_
  refine lv_dup E.x E.b dX8_addWord_31 rfl ?_
  refine z_get E B z_inX8 (ci := 6) rfl 4 (by decide) t_160 0 rfl rfl dX8_addWord_32 ?_
  refine lv_iconst (v := 1) E.x E.b dX8_addWord_35 (by decide) ?_
  refine lv_iadd E.x E.b dX8_addWord_36 (z_topi 6 (by decide +kernel) ?_)
  refine z_put E B z_inX8 tyX8 tyX8_ok nmX8 (ci := 6) rfl 4 (by decide) rfl (ty := .int) (by decide +kernel) t_160 0 rfl (Nat.le_of_ble_eq_true rfl) rfl rfl dX8_addWord_37 (fun H locs B => ?_)
  have B : zB G A s.heap [zo a0 6 [.ref a1, .ref a2, .ref a3, .ref a4, .int 6, .int 0, .int 0, .int 0, .int 0, .long 0], zb G a1 2000 g_6] _ _ := B
  refine lv_iinc (v := 8) (lv' := [(2, .int 8), (0, .ref a0), (1, .int p0)]) E.x E.b dX8_addWord_40 hl (k := 0) rfl (by decide +kernel) (by decide) rfl (fun ls hl => ?_)
  refine lv_goto (tgt := 3) E.x E.b dX8_addWord_43 (by decide) ?_
  refine lv_iload_n E.x E.b dX8_addWord_3 rfl (lv_at hl 0 rfl) ?_
  refine lv_if_lt (tgt := 46) E.x E.b dX8_addWord_4 (by decide) (fun c => absurd c (by decide +kernel)) (fun _ => ?_)
  refine lv_aload_n E.x E.b dX8_addWord_7 rfl (lv_at hl 1 rfl) ?_
  refine z_get E B z_inX8 (ci := 6) rfl 4 (by decide) t_160 0 rfl rfl dX8_addWord_8 ?_
  refine lv_sipush (v := 2000) E.x E.b dX8_addWord_11 (by decide) ?_
  refine lv_icmp_ge (tgt := 40) E.x E.b dX8_addWord_14 (by decide) (fun c => absurd c (by decide +kernel)) (fun _ => ?_)
  refine lv_aload_n E.x E.b dX8_addWord_17 rfl (lv_at hl 1 rfl) ?_
  refine z_get E B z_inX8 (ci := 6) rfl 0 (by decide) t_156 0 rfl rfl dX8_addWord_18 ?_
  refine lv_aload_n E.x E.b dX8_addWord_21 rfl (lv_at hl 1 rfl) ?_
  refine z_get E B z_inX8 (ci := 6) rfl 4 (by decide) t_160 0 rfl rfl dX8_addWord_22 ?_
  refine lv_iload_n E.x E.b dX8_addWord_25 rfl (lv_at hl 2 rfl) ?_
  refine lv_iload_n E.x E.b dX8_addWord_26 rfl (lv_at hl 0 rfl) ?_
  refine lv_iushr (v := _) E.x E.b dX8_addWord_27 rfl ?_
  refine lv_topi (fun x_7 _ => ?_)
  refine lv_i2b (v := _) E.x E.b dX8_addWord_28 rfl ?_
  refine lv_topi (fun x_8 _ => ?_)
  refine z_bast E B 1 rfl (show ¬ ((6 : Int32) < 0 ∨ 2000 ≤ (6 : Int32).toNatClampNeg) by decide +kernel) dX8_addWord_29 (fun H locs g_9 B => ?_)
  have B : zB G A s.heap [zo a0 6 [.ref a1, .ref a2, .ref a3, .ref a4, .int 6, .int 0, .int 0, .int 0, .int 0, .long 0], zb G a1 2000 g_9] _ _ := B
  refine lv_aload_n E.x E.b dX8_addWord_30 rfl (lv_at hl 1 rfl) ?_
  refine lv_dup E.x E.b dX8_addWord_31 rfl ?_
  refine z_get E B z_inX8 (ci := 6) rfl 4 (by decide) t_160 0 rfl rfl dX8_addWord_32 ?_
  refine lv_iconst (v := 1) E.x E.b dX8_addWord_35 (by decide) ?_
  refine lv_iadd E.x E.b dX8_addWord_36 (z_topi 7 (by decide +kernel) ?_)
  refine z_put E B z_inX8 tyX8 tyX8_ok nmX8 (ci := 6) rfl 4 (by decide) rfl (ty := .int) (by decide +kernel) t_160 0 rfl (Nat.le_of_ble_eq_true rfl) rfl rfl dX8_addWord_37 (fun H locs B => ?_)
  have B : zB G A s.heap [zo a0 6 [.ref a1, .ref a2, .ref a3, .ref a4, .int 7, .int 0, .int 0, .int 0, .int 0, .long 0], zb G a1 2000 g_9] _ _ := B
  refine lv_iinc (v := 0) (lv' := [(2, .int 0), (0, .ref a0), (1, .int p0)]) E.x E.b dX8_addWord_40 hl (k := 0) rfl (by decide +kernel) (by decide) rfl (fun ls hl => ?_)
  refine lv_goto (tgt := 3) E.x E.b dX8_addWord_43 (by decide) ?_
  refine lv_iload_n E.x E.b dX8_addWord_3 rfl (lv_at hl 0 rfl) ?_
  refine lv_if_lt (tgt := 46) E.x E.b dX8_addWord_4 (by decide) (fun c => absurd c (by decide +kernel)) (fun _ => ?_)
  refine lv_aload_n E.x E.b dX8_addWord_7 rfl (lv_at hl 1 rfl) ?_
  refine z_get E B z_inX8 (ci := 6) rfl 4 (by decide) t_160 0 rfl rfl dX8_addWord_8 ?_
  refine lv_sipush (v := 2000) E.x E.b dX8_addWord_11 (by decide) ?_
  refine lv_icmp_ge (tgt := 40) E.x E.b dX8_addWord_14 (by decide) (fun c => absurd c (by decide +kernel)) (fun _ => ?_)
  refine lv_aload_n E.x E.b dX8_addWord_17 rfl (lv_at hl 1 rfl) ?_
  refine z_get E B z_inX8 (ci := 6) rfl 0 (by decide) t_156 0 rfl rfl dX8_addWord_18 ?_
  refine lv_aload_n E.x E.b dX8_addWord_21 rfl (lv_at hl 1 rfl) ?_
  refine z_get E B z_inX8 (ci := 6) rfl 4 (by decide) t_160 0 rfl rfl dX8_addWord_22 ?_
  refine lv_iload_n E.x E.b dX8_addWord_25 rfl (lv_at hl 2 rfl) ?_
  refine lv_iload_n E.x E.b dX8_addWord_26 rfl (lv_at hl 0 rfl) ?_
  refine lv_iushr (v := _) E.x E.b dX8_addWord_27 rfl ?_
  refine lv_topi (fun x_10 _ => ?_)
  refine lv_i2b (v := _) E.x E.b dX8_addWord_28 rfl ?_
  refine lv_topi (fun x_11 _ => ?_)
  refine z_bast E B 1 rfl (show ¬ ((7 : Int32) < 0 ∨ 2000 ≤ (7 : Int32).toNatClampNeg) by decide +kernel) dX8_addWord_29 (fun H locs g_12 B => ?_)
  have B : zB G A s.heap [zo a0 6 [.ref a1, .ref a2, .ref a3, .ref a4, .int 7, .int 0, .int 0, .int 0, .int 0, .long 0], zb G a1 2000 g_12] _ _ := B
  refine lv_aload_n E.x E.b dX8_addWord_30 rfl (lv_at hl 1 rfl) ?_
  refine lv_dup E.x E.b dX8_addWord_31 rfl ?_
  refine z_get E B z_inX8 (ci := 6) rfl 4 (by decide) t_160 0 rfl rfl dX8_addWord_32 ?_
  refine lv_iconst (v := 1) E.x E.b dX8_addWord_35 (by decide) ?_
  refine lv_iadd E.x E.b dX8_addWord_36 (z_topi 8 (by decide +kernel) ?_)
  refine z_put E B z_inX8 tyX8 tyX8_ok nmX8 (ci := 6) rfl 4 (by decide) rfl (ty := .int) (by decide +kernel) t_160 0 rfl (Nat.le_of_ble_eq_true rfl) rfl rfl dX8_addWord_37 (fun H locs B => ?_)
  have B : zB G A s.heap [zo a0 6 [.ref a1, .ref a2, .ref a3, .ref a4, .int 8, .int 0, .int 0, .int 0, .int 0, .long 0], zb G a1 2000 g_12] _ _ := B
  refine lv_iinc (v := (-8)) (lv' := [(2, .int (-8)), (0, .ref a0), (1, .int p0)]) E.x E.b dX8_addWord_40 hl (k := 0) rfl (by decide +kernel) (by decide) rfl (fun ls hl => ?_)
  refine lv_goto (tgt := 3) E.x E.b dX8_addWord_43 (by decide) ?_
  refine lv_iload_n E.x E.b dX8_addWord_3 rfl (lv_at hl 0 rfl) ?_
  refine lv_if_lt (tgt := 46) E.x E.b dX8_addWord_4 (by decide) (fun _ => ?_) (fun c => absurd (by decide +kernel) c)
  refine W.widen (k := 0) (n := 0) (Nat.le_of_ble_eq_true rfl) (Nat.le_of_ble_eq_true rfl) ?_
  exact z_vret E hr hlocks B trivial (fun t ht => ⟨_, z_q B [0, 1] (by decide) rfl ht⟩) dX8_addWord_46
set_option maxHeartbeats 4000000 in
set_option maxRecDepth 100000 in
theorem c_X8_addWord_39 (l : Launch) (G : zGT) (sz : Nat) (a0 a1 a2 a3 a4 : Nat) (p0 : Int32) (f0 : Nat → Int32) : Met l yX8_addWord (.code yX8_addWord cX8_addWord 3 none :: zT) ({ frames := 0, cells := 0, slots := 0, locals := 64 }) (va_Pc [.ref a0, .int p0] (zPc G [zo a0 6 [.ref a1, .ref a2, .ref a3, .ref a4, .int 8, .int 0, .int 0, .int 0, .int 0, .long 0], zb G a1 2000 f0] sz)) ((fun A => va_Qv (fun (_ : Unit) => True) (fun (_ : Unit) t => ∃ (F1 : Nat → Int32), zQ G [zo a0 6 [.ref a1, .ref a2, .ref a3, .ref a4, .int 12, .int 0, .int 0, .int 0, .int 0, .long 0], zb G a1 2000 F1] A t) A) (va_A [zo a0 6 [.ref a1, .ref a2, .ref a3, .ref a4, .int 8, .int 0, .int 0, .int 0, .int 0, .long 0], zb G a1 2000 f0] sz)) 0 0 (va_A [zo a0 6 [.ref a1, .ref a2, .ref a3, .ref a4, .int 8, .int 0, .int 0, .int 0, .int 0, .long 0], zb G a1 2000 f0] sz) := by
  refine z_start (y := yX8_addWord) (bytes := cX8_addWord) (maxL := 3) (ret := none) (av := [.ref a0, .int p0]) (QA := (fun A => va_Qv (fun (_ : Unit) => True) (fun (_ : Unit) t => ∃ (F1 : Nat → Int32), zQ G [zo a0 6 [.ref a1, .ref a2, .ref a3, .ref a4, .int 12, .int 0, .int 0, .int 0, .int 0, .long 0], zb G a1 2000 F1] A t) A)) (by decide) ⟨Nat.le_of_ble_eq_true rfl, trivial⟩ ?_
  intro p e s m below meth c A ls E B hr hlocks hin hl
  have hl : lv_has ls 3 [(0, .ref a0), (1, .int p0)] := hl
  have B : zB G A s.heap [zo a0 6 [.ref a1, .ref a2, .ref a3, .ref a4, .int 8, .int 0, .int 0, .int 0, .int 0, .long 0], zb G a1 2000 f0] s.heap [] := B
  refine lv_bipush (v := 24) E.x E.b dX8_addWord_0 (by decide) ?_
  refine lv_istore_n (lv' := [(2, .int 24), (0, .ref a0), (1, .int p0)]) E.x E.b dX8_addWord_2 rfl hl (by decide) rfl (fun ls hl => ?_)
  refine lv_iload_n E.x E.b dX8_addWord_3 rfl (lv_at hl 0 rfl) ?_
  refine lv_if_lt (tgt := 46) E.x E.b dX8_addWord_4 (by decide) (fun c => absurd c (by decide +kernel)) (fun _ => ?_)
  refine lv_aload_n E.x E.b dX8_addWord_7 rfl (lv_at hl 1 rfl) ?_
  refine z_get E B z_inX8 (ci := 6) rfl 4 (by decide) t_160 0 rfl rfl dX8_addWord_8 ?_
  refine lv_sipush (v := 2000) E.x E.b dX8_addWord_11 (by decide) ?_
  refine lv_icmp_ge (tgt := 40) E.x E.b dX8_addWord_14 (by decide) (fun c => absurd c (by decide +kernel)) (fun _ => ?_)
  refine lv_aload_n E.x E.b dX8_addWord_17 rfl (lv_at hl 1 rfl) ?_
  refine z_get E B z_inX8 (ci := 6) rfl 0 (by decide) t_156 0 rfl rfl dX8_addWord_18 ?_
  refine lv_aload_n E.x E.b dX8_addWord_21 rfl (lv_at hl 1 rfl) ?_
  refine z_get E B z_inX8 (ci := 6) rfl 4 (by decide) t_160 0 rfl rfl dX8_addWord_22 ?_
  refine lv_iload_n E.x E.b dX8_addWord_25 rfl (lv_at hl 2 rfl) ?_
  refine lv_iload_n E.x E.b dX8_addWord_26 rfl (lv_at hl 0 rfl) ?_
  refine lv_iushr (v := _) E.x E.b dX8_addWord_27 rfl ?_
  refine lv_topi (fun x_1 _ => ?_)
  refine lv_i2b (v := _) E.x E.b dX8_addWord_28 rfl ?_
  refine lv_topi (fun x_2 _ => ?_)
  refine z_bast E B 1 rfl (show ¬ ((8 : Int32) < 0 ∨ 2000 ≤ (8 : Int32).toNatClampNeg) by decide +kernel) dX8_addWord_29 (fun H locs g_3 B => ?_)
  have B : zB G A s.heap [zo a0 6 [.ref a1, .ref a2, .ref a3, .ref a4, .int 8, .int 0, .int 0, .int 0, .int 0, .long 0], zb G a1 2000 g_3] _ _ := B
  refine lv_aload_n E.x E.b dX8_addWord_30 rfl (lv_at hl 1 rfl) ?_
  refine lv_dup E.x E.b dX8_addWord_31 rfl ?_
  refine z_get E B z_inX8 (ci := 6) rfl 4 (by decide) t_160 0 rfl rfl dX8_addWord_32 ?_
  refine lv_iconst (v := 1) E.x E.b dX8_addWord_35 (by decide) ?_
  refine lv_iadd E.x E.b dX8_addWord_36 (z_topi 9 (by decide +kernel) ?_)
  refine z_put E B z_inX8 tyX8 tyX8_ok nmX8 (ci := 6) rfl 4 (by decide) rfl (ty := .int) (by decide +kernel) t_160 0 rfl (Nat.le_of_ble_eq_true rfl) rfl rfl dX8_addWord_37 (fun H locs B => ?_)
  have B : zB G A s.heap [zo a0 6 [.ref a1, .ref a2, .ref a3, .ref a4, .int 9, .int 0, .int 0, .int 0, .int 0, .long 0], zb G a1 2000 g_3] _ _ := B
  refine lv_iinc (v := 16) (lv' := [(2, .int 16), (0, .ref a0), (1, .int p0)]) E.x E.b dX8_addWord_40 hl (k := 0) rfl (by decide +kernel) (by decide) rfl (fun ls hl => ?_)
  refine lv_goto (tgt := 3) E.x E.b dX8_addWord_43 (by decide) ?_
  refine lv_iload_n E.x E.b dX8_addWord_3 rfl (lv_at hl 0 rfl) ?_
  refine lv_if_lt (tgt := 46) E.x E.b dX8_addWord_4 (by decide) (fun c => absurd c (by decide +kernel)) (fun _ => ?_)
  refine lv_aload_n E.x E.b dX8_addWord_7 rfl (lv_at hl 1 rfl) ?_
  refine z_get E B z_inX8 (ci := 6) rfl 4 (by decide) t_160 0 rfl rfl dX8_addWord_8 ?_
  refine lv_sipush (v := 2000) E.x E.b dX8_addWord_11 (by decide) ?_
  refine lv_icmp_ge (tgt := 40) E.x E.b dX8_addWord_14 (by decide) (fun c => absurd c (by decide +kernel)) (fun _ => ?_)
  refine lv_aload_n E.x E.b dX8_addWord_17 rfl (lv_at hl 1 rfl) ?_
  refine z_get E B z_inX8 (ci := 6) rfl 0 (by decide) t_156 0 rfl rfl dX8_addWord_18 ?_
  refine lv_aload_n E.x E.b dX8_addWord_21 rfl (lv_at hl 1 rfl) ?_
  refine z_get E B z_inX8 (ci := 6) rfl 4 (by decide) t_160 0 rfl rfl dX8_addWord_22 ?_
  refine lv_iload_n E.x E.b dX8_addWord_25 rfl (lv_at hl 2 rfl) ?_
  refine lv_iload_n E.x E.b dX8_addWord_26 rfl (lv_at hl 0 rfl) ?_
  refine lv_iushr (v := _) E.x E.b dX8_addWord_27 rfl ?_
  refine lv_topi (fun x_4 _ => ?_)
  refine lv_i2b (v := _) E.x E.b dX8_addWord_28 rfl ?_
  refine lv_topi (fun x_5 _ => ?_)
  refine z_bast E B 1 rfl (show ¬ ((9 : Int32) < 0 ∨ 2000 ≤ (9 : Int32).toNatClampNeg) by decide +kernel) dX8_addWord_29 (fun H locs g_6 B => ?_)
  have B : zB G A s.heap [zo a0 6 [.ref a1, .ref a2, .ref a3, .ref a4, .int 9, .int 0, .int 0, .int 0, .int 0, .long 0], zb G a1 2000 g_6] _ _ := B
  refine lv_aload_n E.x E.b dX8_addWord_30 rfl (lv_at hl 1 rfl) ?_
  refine lv_dup E.x E.b dX8_addWord_31 rfl ?_
  refine z_get E B z_inX8 (ci := 6) rfl 4 (by decide) t_160 0 rfl rfl dX8_addWord_32 ?_
  refine lv_iconst (v := 1) E.x E.b dX8_addWord_35 (by decide) ?_
  refine lv_iadd E.x E.b dX8_addWord_36 (z_topi 10 (by decide +kernel) ?_)
  refine z_put E B z_inX8 tyX8 tyX8_ok nmX8 (ci := 6) rfl 4 (by decide) rfl (ty := .int) (by decide +kernel) t_160 0 rfl (Nat.le_of_ble_eq_true rfl) rfl rfl dX8_addWord_37 (fun H locs B => ?_)
  have B : zB G A s.heap [zo a0 6 [.ref a1, .ref a2, .ref a3, .ref a4, .int 10, .int 0, .int 0, .int 0, .int 0, .long 0], zb G a1 2000 g_6] _ _ := B
  refine lv_iinc (v := 8) (lv' := [(2, .int 8), (0, .ref a0), (1, .int p0)]) E.x E.b dX8_addWord_40 hl (k := 0) rfl (by decide +kernel) (by decide) rfl (fun ls hl => ?_)
  refine lv_goto (tgt := 3) E.x E.b dX8_addWord_43 (by decide) ?_
  refine lv_iload_n E.x E.b dX8_addWord_3 rfl (lv_at hl 0 rfl) ?_
  refine lv_if_lt (tgt := 46) E.x E.b dX8_addWord_4 (by decide) (fun c => absurd c (by decide +kernel)) (fun _ => ?_)
  refine lv_aload_n E.x E.b dX8_addWord_7 rfl (lv_at hl 1 rfl) ?_
  refine z_get E B z_inX8 (ci := 6) rfl 4 (by decide) t_160 0 rfl rfl dX8_addWord_8 ?_
  refine lv_sipush (v := 2000) E.x E.b dX8_addWord_11 (by decide) ?_
  refine lv_icmp_ge (tgt := 40) E.x E.b dX8_addWord_14 (by decide) (fun c => absurd c (by decide +kernel)) (fun _ => ?_)
  refine lv_aload_n E.x E.b dX8_addWord_17 rfl (lv_at hl 1 rfl) ?_
  refine z_get E B z_inX8 (ci := 6) rfl 0 (by decide) t_156 0 rfl rfl dX8_addWord_18 ?_
  refine lv_aload_n E.x E.b dX8_addWord_21 rfl (lv_at hl 1 rfl) ?_
  refine z_get E B z_inX8 (ci := 6) rfl 4 (by decide) t_160 0 rfl rfl dX8_addWord_22 ?_
  refine lv_iload_n E.x E.b dX8_addWord_25 rfl (lv_at hl 2 rfl) ?_
  refine lv_iload_n E.x E.b dX8_addWord_26 rfl (lv_at hl 0 rfl) ?_
  refine lv_iushr (v := _) E.x E.b dX8_addWord_27 rfl ?_
  refine lv_topi (fun x_7 _ => ?_)
  refine lv_i2b (v := _) E.x E.b dX8_addWord_28 rfl ?_
  refine lv_topi (fun x_8 _ => ?_)
  refine z_bast E B 1 rfl (show ¬ ((10 : Int32) < 0 ∨ 2000 ≤ (10 : Int32).toNatClampNeg) by decide +kernel) dX8_addWord_29 (fun H locs g_9 B => ?_)
  have B : zB G A s.heap [zo a0 6 [.ref a1, .ref a2, .ref a3, .ref a4, .int 10, .int 0, .int 0, .int 0, .int 0, .long 0], zb G a1 2000 g_9] _ _ := B
  refine lv_aload_n E.x E.b dX8_addWord_30 rfl (lv_at hl 1 rfl) ?_
  refine lv_dup E.x E.b dX8_addWord_31 rfl ?_
  refine z_get E B z_inX8 (ci := 6) rfl 4 (by decide) t_160 0 rfl rfl dX8_addWord_32 ?_
  refine lv_iconst (v := 1) E.x E.b dX8_addWord_35 (by decide) ?_
  refine lv_iadd E.x E.b dX8_addWord_36 (z_topi 11 (by decide +kernel) ?_)
  refine z_put E B z_inX8 tyX8 tyX8_ok nmX8 (ci := 6) rfl 4 (by decide) rfl (ty := .int) (by decide +kernel) t_160 0 rfl (Nat.le_of_ble_eq_true rfl) rfl rfl dX8_addWord_37 (fun H locs B => ?_)
  have B : zB G A s.heap [zo a0 6 [.ref a1, .ref a2, .ref a3, .ref a4, .int 11, .int 0, .int 0, .int 0, .int 0, .long 0], zb G a1 2000 g_9] _ _ := B
  refine lv_iinc (v := 0) (lv' := [(2, .int 0), (0, .ref a0), (1, .int p0)]) E.x E.b dX8_addWord_40 hl (k := 0) rfl (by decide +kernel) (by decide) rfl (fun ls hl => ?_)
  refine lv_goto (tgt := 3) E.x E.b dX8_addWord_43 (by decide) ?_
  refine lv_iload_n E.x E.b dX8_addWord_3 rfl (lv_at hl 0 rfl) ?_
  refine lv_if_lt (tgt := 46) E.x E.b dX8_addWord_4 (by decide) (fun c => absurd c (by decide +kernel)) (fun _ => ?_)
  refine lv_aload_n E.x E.b dX8_addWord_7 rfl (lv_at hl 1 rfl) ?_
  refine z_get E B z_inX8 (ci := 6) rfl 4 (by decide) t_160 0 rfl rfl dX8_addWord_8 ?_
  refine lv_sipush (v := 2000) E.x E.b dX8_addWord_11 (by decide) ?_
  refine lv_icmp_ge (tgt := 40) E.x E.b dX8_addWord_14 (by decide) (fun c => absurd c (by decide +kernel)) (fun _ => ?_)
  refine lv_aload_n E.x E.b dX8_addWord_17 rfl (lv_at hl 1 rfl) ?_
  refine z_get E B z_inX8 (ci := 6) rfl 0 (by decide) t_156 0 rfl rfl dX8_addWord_18 ?_
  refine lv_aload_n E.x E.b dX8_addWord_21 rfl (lv_at hl 1 rfl) ?_
  refine z_get E B z_inX8 (ci := 6) rfl 4 (by decide) t_160 0 rfl rfl dX8_addWord_22 ?_
  refine lv_iload_n E.x E.b dX8_addWord_25 rfl (lv_at hl 2 rfl) ?_
  refine lv_iload_n E.x E.b dX8_addWord_26 rfl (lv_at hl 0 rfl) ?_
  refine lv_iushr (v := _) E.x E.b dX8_addWord_27 rfl ?_
  refine lv_topi (fun x_10 _ => ?_)
  refine lv_i2b (v := _) E.x E.b dX8_addWord_28 rfl ?_
  refine lv_topi (fun x_11 _ => ?_)
  refine z_bast E B 1 rfl (show ¬ ((11 : Int32) < 0 ∨ 2000 ≤ (11 : Int32).toNatClampNeg) by decide +kernel) dX8_addWord_29 (fun H locs g_12 B => ?_)
  have B : zB G A s.heap [zo a0 6 [.ref a1, .ref a2, .ref a3, .ref a4, .int 11, .int 0, .int 0, .int 0, .int 0, .long 0], zb G a1 2000 g_12] _ _ := B
  refine lv_aload_n E.x E.b dX8_addWord_30 rfl (lv_at hl 1 rfl) ?_
  refine lv_dup E.x E.b dX8_addWord_31 rfl ?_
  refine z_get E B z_inX8 (ci := 6) rfl 4 (by decide) t_160 0 rfl rfl dX8_addWord_32 ?_
  refine lv_iconst (v := 1) E.x E.b dX8_addWord_35 (by decide) ?_
  refine lv_iadd E.x E.b dX8_addWord_36 (z_topi 12 (by decide +kernel) ?_)
  refine z_put E B z_inX8 tyX8 tyX8_ok nmX8 (ci := 6) rfl 4 (by decide) rfl (ty := .int) (by decide +kernel) t_160 0 rfl (Nat.le_of_ble_eq_true rfl) rfl rfl dX8_addWord_37 (fun H locs B => ?_)
  have B : zB G A s.heap [zo a0 6 [.ref a1, .ref a2, .ref a3, .ref a4, .int 12, .int 0, .int 0, .int 0, .int 0, .long 0], zb G a1 2000 g_12] _ _ := B
  refine lv_iinc (v := (-8)) (lv' := [(2, .int (-8)), (0, .ref a0), (1, .int p0)]) E.x E.b dX8_addWord_40 hl (k := 0) rfl (by decide +kernel) (by decide) rfl (fun ls hl => ?_)
  refine lv_goto (tgt := 3) E.x E.b dX8_addWord_43 (by decide) ?_
  refine lv_iload_n E.x E.b dX8_addWord_3 rfl (lv_at hl 0 rfl) ?_
  refine lv_if_lt (tgt := 46) E.x E.b dX8_addWord_4 (by decide) (fun _ => ?_) (fun c => absurd (by decide +kernel) c)
  refine W.widen (k := 0) (n := 0) (Nat.le_of_ble_eq_true rfl) (Nat.le_of_ble_eq_true rfl) ?_
  exact z_vret E hr hlocks B trivial (fun t ht => ⟨_, z_q B [0, 1] (by decide) rfl ht⟩) dX8_addWord_46
