set_option maxHeartbeats 4000000 in
set_option maxRecDepth 100000 in
theorem c_X8_init_1 (l : Launch) (G : zGT) (sz : Nat) (a0 : Nat) : Met l yX8_init (.code yX8_init cX8_init 1 none :: zT) ({ frames := 1, cells := 4, slots := 3200, locals := 64 }) (va_Pc [.ref a0] (zPc G [zo a0 6 [.null, .null, .null, .null, .int 0, .int 0, .int 0, .int 0, .int 0, .long 0]] sz)) ((fun A => va_Qv (fun (_ : Unit) => True) (fun (_ : Unit) t => ∃ (q_1 : Nat) (q_2 : Nat) (q_3 : Nat) (q_4 : Nat), zQ G [zo a0 6 [.ref q_1, .ref q_2, .ref q_3, .ref q_4, .int 0, .int 0, .int 0, .int 0, .int 0, .long 0], zb G q_1 2000 (fun _ => 0)] A t) A) (va_A [zo a0 6 [.null, .null, .null, .null, .int 0, .int 0, .int 0, .int 0, .int 0, .long 0]] sz)) 4 3200 (va_A [zo a0 6 [.null, .null, .null, .null, .int 0, .int 0, .int 0, .int 0, .int 0, .long 0]] sz) := by
  refine z_start (y := yX8_init) (bytes := cX8_init) (maxL := 1) (ret := none) (av := [.ref a0]) (QA := (fun A => va_Qv (fun (_ : Unit) => True) (fun (_ : Unit) t => ∃ (q_1 : Nat) (q_2 : Nat) (q_3 : Nat) (q_4 : Nat), zQ G [zo a0 6 [.ref q_1, .ref q_2, .ref q_3, .ref q_4, .int 0, .int 0, .int 0, .int 0, .int 0, .long 0], zb G q_1 2000 (fun _ => 0)] A t) A)) (by decide) ⟨Nat.le_of_ble_eq_true rfl, trivial⟩ ?_
  intro p e s m below meth c A ls E B hr hlocks hin hl
  have hl : lv_has ls 1 [(0, .ref a0)] := hl
  have B : zB G A s.heap [zo a0 6 [.null, .null, .null, .null, .int 0, .int 0, .int 0, .int 0, .int 0, .long 0]] s.heap [] := B
  refine lv_aload_n E.x E.b dX8_init_0 rfl (lv_at hl 0 rfl) ?_
  refine z_objInit E (lv_sub hl [] rfl) t_155 t_148 t_objcode dX8_init_1 (Nat.le_of_ble_eq_true rfl) (Nat.le_of_ble_eq_true rfl) ?_
  refine lv_aload_n E.x E.b dX8_init_4 rfl (lv_at hl 0 rfl) ?_
  refine lv_sipush (v := 2000) E.x E.b dX8_init_5 (by decide) ?_
  refine z_newB E B t_192 (N' := 2000) (by decide) (by decide +kernel) (by decide) (Nat.le_of_ble_eq_true rfl) (Nat.le_of_ble_eq_true rfl) dX8_init_8 (fun q_1 H B => ?_)
  have B : zB G A s.heap [zo a0 6 [.null, .null, .null, .null, .int 0, .int 0, .int 0, .int 0, .int 0, .long 0], zb G q_1 2000 (fun _ => 0)] _ _ := B
  refine z_putF E B z_inX8 tyX8 tyX8_ok nmX8 (ci := 6) rfl 0 (by decide) rfl (ty := (.array .byte)) (by decide +kernel) t_156 rfl hin 0 rfl (Nat.le_of_ble_eq_true rfl) rfl rfl dX8_init_10 (fun H locs B => ?_)
  have B : zB G A s.heap [zo a0 6 [.ref q_1, .null, .null, .null, .int 0, .int 0, .int 0, .int 0, .int 0, .long 0], zb G q_1 2000 (fun _ => 0)] _ _ := B
  refine lv_aload_n E.x E.b dX8_init_13 rfl (lv_at hl 0 rfl) ?_
  refine lv_sipush (v := 400) E.x E.b dX8_init_14 (by decide) ?_
  refine z_newI E B t_193 (N' := 400) (by decide) (by decide +kernel) (by decide) (Nat.le_of_ble_eq_true rfl) (Nat.le_of_ble_eq_true rfl) dX8_init_17 (fun q_2 H B => ?_)
  have B : zB G A s.heap [zo a0 6 [.ref q_1, .null, .null, .null, .int 0, .int 0, .int 0, .int 0, .int 0, .long 0], zb G q_1 2000 (fun _ => 0), zi G q_2 400 (fun _ => 0)] _ _ := B
  refine z_putF E B z_inX8 tyX8 tyX8_ok nmX8 (ci := 6) rfl 1 (by decide) rfl (ty := (.array .int)) (by decide +kernel) t_157 rfl hin 0 rfl (Nat.le_of_ble_eq_true rfl) rfl rfl dX8_init_19 (fun H locs B => ?_)
  have B : zB G A s.heap [zo a0 6 [.ref q_1, .ref q_2, .null, .null, .int 0, .int 0, .int 0, .int 0, .int 0, .long 0], zb G q_1 2000 (fun _ => 0), zi G q_2 400 (fun _ => 0)] _ _ := B
  refine lv_aload_n E.x E.b dX8_init_22 rfl (lv_at hl 0 rfl) ?_
  refine lv_sipush (v := 400) E.x E.b dX8_init_23 (by decide) ?_
  refine z_newI E B t_193 (N' := 400) (by decide) (by decide +kernel) (by decide) (Nat.le_of_ble_eq_true rfl) (Nat.le_of_ble_eq_true rfl) dX8_init_26 (fun q_3 H B => ?_)
  have B : zB G A s.heap [zo a0 6 [.ref q_1, .ref q_2, .null, .null, .int 0, .int 0, .int 0, .int 0, .int 0, .long 0], zb G q_1 2000 (fun _ => 0), zi G q_2 400 (fun _ => 0), zi G q_3 400 (fun _ => 0)] _ _ := B
  refine z_putF E B z_inX8 tyX8 tyX8_ok nmX8 (ci := 6) rfl 2 (by decide) rfl (ty := (.array .int)) (by decide +kernel) t_158 rfl hin 0 rfl (Nat.le_of_ble_eq_true rfl) rfl rfl dX8_init_28 (fun H locs B => ?_)
  have B : zB G A s.heap [zo a0 6 [.ref q_1, .ref q_2, .ref q_3, .null, .int 0, .int 0, .int 0, .int 0, .int 0, .long 0], zb G q_1 2000 (fun _ => 0), zi G q_2 400 (fun _ => 0), zi G q_3 400 (fun _ => 0)] _ _ := B
  refine lv_aload_n E.x E.b dX8_init_31 rfl (lv_at hl 0 rfl) ?_
  refine lv_sipush (v := 400) E.x E.b dX8_init_32 (by decide) ?_
  refine z_newJ E B t_194 (N' := 400) (by decide) (by decide +kernel) (by decide) (Nat.le_of_ble_eq_true rfl) (Nat.le_of_ble_eq_true rfl) dX8_init_35 (fun q_4 H B => ?_)
  have B : zB G A s.heap [zo a0 6 [.ref q_1, .ref q_2, .ref q_3, .null, .int 0, .int 0, .int 0, .int 0, .int 0, .long 0], zb G q_1 2000 (fun _ => 0), zi G q_2 400 (fun _ => 0), zi G q_3 400 (fun _ => 0), zj G q_4 400 (fun _ => 0)] _ _ := B
  refine z_putF E B z_inX8 tyX8 tyX8_ok nmX8 (ci := 6) rfl 3 (by decide) rfl (ty := (.array .long)) (by decide +kernel) t_159 rfl hin 0 rfl (Nat.le_of_ble_eq_true rfl) rfl rfl dX8_init_37 (fun H locs B => ?_)
  have B : zB G A s.heap [zo a0 6 [.ref q_1, .ref q_2, .ref q_3, .ref q_4, .int 0, .int 0, .int 0, .int 0, .int 0, .long 0], zb G q_1 2000 (fun _ => 0), zi G q_2 400 (fun _ => 0), zi G q_3 400 (fun _ => 0), zj G q_4 400 (fun _ => 0)] _ _ := B
  refine W.widen (k := 4) (n := 3200) (Nat.le_of_ble_eq_true rfl) (Nat.le_of_ble_eq_true rfl) ?_
  exact z_vret E hr hlocks B trivial (fun t ht => ⟨q_1, q_2, q_3, q_4, z_q B [0, 1] (by decide) rfl ht⟩) dX8_init_40
set_option maxHeartbeats 4000000 in
set_option maxRecDepth 100000 in
theorem c_X3_init_2 (l : Launch) (G : zGT) (sz : Nat) (a0 : Nat) : Met l yX3_init (.code yX3_init cX3_init 1 none :: zT) ({ frames := 1, cells := 0, slots := 0, locals := 64 }) (va_Pc [.ref a0] (zPc G [] sz)) ((fun A => va_Qv (fun (_ : Unit) => True) (fun (_ : Unit) t => zQ G [] A t) A) (va_A [] sz)) 0 0 (va_A [] sz) := by
  refine z_start (y := yX3_init) (bytes := cX3_init) (maxL := 1) (ret := none) (av := [.ref a0]) (QA := (fun A => va_Qv (fun (_ : Unit) => True) (fun (_ : Unit) t => zQ G [] A t) A)) (by decide) ⟨Nat.le_of_ble_eq_true rfl, trivial⟩ ?_
  intro p e s m below meth c A ls E B hr hlocks hin hl
  have hl : lv_has ls 1 [(0, .ref a0)] := hl
  have B : zB G A s.heap [] s.heap [] := B
  refine lv_aload_n E.x E.b dX3_init_0 rfl (lv_at hl 0 rfl) ?_
  refine z_objInit E (lv_sub hl [] rfl) t_200 t_148 t_objcode dX3_init_1 (Nat.le_of_ble_eq_true rfl) (Nat.le_of_ble_eq_true rfl) ?_
  refine W.widen (k := 0) (n := 0) (Nat.le_of_ble_eq_true rfl) (Nat.le_of_ble_eq_true rfl) ?_
  exact z_vret E hr hlocks B trivial (fun t ht => z_q B [] (by decide) rfl ht) dX3_init_4
set_option maxHeartbeats 4000000 in
set_option maxRecDepth 100000 in
theorem c_X5_init_3 (l : Launch) (G : zGT) (sz : Nat) (a0 : Nat) : Met l yX5_init (.code yX5_init cX5_init 1 none :: zT) ({ frames := 1, cells := 1, slots := 4, locals := 64 }) (va_Pc [.ref a0] (zPc G [zo a0 4 [.int 0, .int 0, .null]] sz)) ((fun A => va_Qv (fun (_ : Unit) => True) (fun (_ : Unit) t => ∃ (q_1 : Nat), zQ G [zo a0 4 [.int 0, .int 0, .ref q_1]] A t) A) (va_A [zo a0 4 [.int 0, .int 0, .null]] sz)) 1 4 (va_A [zo a0 4 [.int 0, .int 0, .null]] sz) := by
  refine z_start (y := yX5_init) (bytes := cX5_init) (maxL := 1) (ret := none) (av := [.ref a0]) (QA := (fun A => va_Qv (fun (_ : Unit) => True) (fun (_ : Unit) t => ∃ (q_1 : Nat), zQ G [zo a0 4 [.int 0, .int 0, .ref q_1]] A t) A)) (by decide) ⟨Nat.le_of_ble_eq_true rfl, trivial⟩ ?_
  intro p e s m below meth c A ls E B hr hlocks hin hl
  have hl : lv_has ls 1 [(0, .ref a0)] := hl
  have B : zB G A s.heap [zo a0 4 [.int 0, .int 0, .null]] s.heap [] := B
  refine lv_aload_n E.x E.b dX5_init_0 rfl (lv_at hl 0 rfl) ?_
  refine z_objInit E (lv_sub hl [] rfl) t_226 t_148 t_objcode dX5_init_1 (Nat.le_of_ble_eq_true rfl) (Nat.le_of_ble_eq_true rfl) ?_
  refine lv_aload_n E.x E.b dX5_init_4 rfl (lv_at hl 0 rfl) ?_
  refine lv_iconst (v := 4) E.x E.b dX5_init_5 (by decide) ?_
  refine z_newJ E B t_194 (N' := 4) (by decide) (by decide +kernel) (by decide) (Nat.le_of_ble_eq_true rfl) (Nat.le_of_ble_eq_true rfl) dX5_init_6 (fun q_1 H B => ?_)
  have B : zB G A s.heap [zo a0 4 [.int 0, .int 0, .null], zj G q_1 4 (fun _ => 0)] _ _ := B
  refine z_putF E B z_inX5 tyX5 tyX5_ok nmX5 (ci := 4) rfl 2 (by decide) rfl (ty := (.array .long)) (by decide +kernel) t_231 rfl hin 0 rfl (Nat.le_of_ble_eq_true rfl) rfl rfl dX5_init_8 (fun H locs B => ?_)
  have B : zB G A s.heap [zo a0 4 [.int 0, .int 0, .ref q_1], zj G q_1 4 (fun _ => 0)] _ _ := B
  refine W.widen (k := 1) (n := 4) (Nat.le_of_ble_eq_true rfl) (Nat.le_of_ble_eq_true rfl) ?_
  exact z_vret E hr hlocks B trivial (fun t ht => ⟨q_1, z_q B [0] (by decide) rfl ht⟩) dX5_init_11
set_option maxHeartbeats 4000000 in
set_option maxRecDepth 100000 in
theorem c_X0_init_4 (l : Launch) (G : zGT) (sz : Nat) (a0 : Nat) : Met l yX0_init (.code yX0_init cX0_init 2 none :: zT) ({ frames := 1, cells := 1, slots := 16, locals := 64 }) (va_Pc [.ref a0, .int 16] (zPc G [zo a0 0 [.null, .int 0]] sz)) ((fun A => va_Qv (fun (_ : Unit) => True) (fun (_ : Unit) t => ∃ (q_1 : Nat), zQ G [zo a0 0 [.ref q_1, .int 0], zi G q_1 16 (fun _ => 0)] A t) A) (va_A [zo a0 0 [.null, .int 0]] sz)) 1 16 (va_A [zo a0 0 [.null, .int 0]] sz) := by
  refine z_start (y := yX0_init) (bytes := cX0_init) (maxL := 2) (ret := none) (av := [.ref a0, .int 16]) (QA := (fun A => va_Qv (fun (_ : Unit) => True) (fun (_ : Unit) t => ∃ (q_1 : Nat), zQ G [zo a0 0 [.ref q_1, .int 0], zi G q_1 16 (fun _ => 0)] A t) A)) (by decide) ⟨Nat.le_of_ble_eq_true rfl, trivial⟩ ?_
  intro p e s m below meth c A ls E B hr hlocks hin hl
  have hl : lv_has ls 2 [(0, .ref a0), (1, .int 16)] := hl
  have B : zB G A s.heap [zo a0 0 [.null, .int 0]] s.heap [] := B
  refine lv_aload_n E.x E.b dX0_init_0 rfl (lv_at hl 0 rfl) ?_
  refine z_objInit E (lv_sub hl [] rfl) t_244 t_148 t_objcode dX0_init_1 (Nat.le_of_ble_eq_true rfl) (Nat.le_of_ble_eq_true rfl) ?_
  refine lv_aload_n E.x E.b dX0_init_4 rfl (lv_at hl 0 rfl) ?_
  refine lv_iload_n E.x E.b dX0_init_5 rfl (lv_at hl 1 rfl) ?_
  refine lv_iconst (v := 0) E.x E.b dX0_init_6 (by decide) ?_
  refine va_mmax E.x E.b (E.1.2.2.1.trans hl.1.symm) E.ow (E.w t_mlX0_9) (E.w t_mmax1) (E.w t_127) (E.w t_mmax2) (Nat.le_of_ble_eq_true rfl) (Nat.le_of_ble_eq_true rfl) (Nat.le_of_ble_eq_true rfl) (Nat.le_of_ble_eq_true rfl) dX0_init_7 (z_topi 16 (by decide +kernel) ?_)
  refine z_newI E B t_193 (N' := 16) (by decide) (by decide +kernel) (by decide) (Nat.le_of_ble_eq_true rfl) (Nat.le_of_ble_eq_true rfl) dX0_init_10 (fun q_1 H B => ?_)
  have B : zB G A s.heap [zo a0 0 [.null, .int 0], zi G q_1 16 (fun _ => 0)] _ _ := B
  refine z_putF E B z_inX0 tyX0 tyX0_ok nmX0 (ci := 0) rfl 0 (by decide) rfl (ty := (.array .int)) (by decide +kernel) t_248 rfl hin 0 rfl (Nat.le_of_ble_eq_true rfl) rfl rfl dX0_init_12 (fun H locs B => ?_)
  have B : zB G A s.heap [zo a0 0 [.ref q_1, .int 0], zi G q_1 16 (fun _ => 0)] _ _ := B
  refine W.widen (k := 1) (n := 16) (Nat.le_of_ble_eq_true rfl) (Nat.le_of_ble_eq_true rfl) ?_
  exact z_vret E hr hlocks B trivial (fun t ht => ⟨q_1, z_q B [0, 1] (by decide) rfl ht⟩) dX0_init_15
set_option maxHeartbeats 4000000 in
set_option maxRecDepth 100000 in
theorem c_X4_init_5 (l : Launch) (G : zGT) (sz : Nat) (a0 : Nat) : Met l yX4_init (.code yX4_init cX4_init 2 none :: zT) ({ frames := 2, cells := 81, slots := 760, locals := 85 }) (va_Pc [.ref a0] (zPc G [zo a0 3 [.null, .int 0, .int 0]] sz)) ((fun A => va_Qv (fun (_ : Unit) => True) (fun (_ : Unit) t => ∃ (q_1 : Nat) (q_2 : Nat) (q_3 : Nat) (F1 : Nat → Option Nat), F1 0 = some q_2 ∧ zQ G [zo a0 3 [.ref q_1, .int 0, .int 0], zc G q_1 40 F1, zo q_2 0 [.ref q_3, .int 0], zi G q_3 16 (fun _ => 0)] A t) A) (va_A [zo a0 3 [.null, .int 0, .int 0]] sz)) 81 760 (va_A [zo a0 3 [.null, .int 0, .int 0]] sz) := by
  refine z_start (y := yX4_init) (bytes := cX4_init) (maxL := 2) (ret := none) (av := [.ref a0]) (QA := (fun A => va_Qv (fun (_ : Unit) => True) (fun (_ : Unit) t => ∃ (q_1 : Nat) (q_2 : Nat) (q_3 : Nat) (F1 : Nat → Option Nat), F1 0 = some q_2 ∧ zQ G [zo a0 3 [.ref q_1, .int 0, .int 0], zc G q_1 40 F1, zo q_2 0 [.ref q_3, .int 0], zi G q_3 16 (fun _ => 0)] A t) A)) (by decide) ⟨Nat.le_of_ble_eq_true rfl, trivial⟩ ?_
  intro p e s m below meth c A ls E B hr hlocks hin hl
  have hl : lv_has ls 2 [(0, .ref a0)] := hl
  have B : zB G A s.heap [zo a0 3 [.null, .int 0, .int 0]] s.heap [] := B
  refine lv_aload_n E.x E.b dX4_init_0 rfl (lv_at hl 0 rfl) ?_
  refine z_objInit E (lv_sub hl [] rfl) t_266 t_148 t_objcode dX4_init_1 (Nat.le_of_ble_eq_true rfl) (Nat.le_of_ble_eq_true rfl) ?_
  refine lv_aload_n E.x E.b dX4_init_4 rfl (lv_at hl 0 rfl) ?_
  refine lv_bipush (v := 40) E.x E.b dX4_init_5 (by decide) ?_
  refine z_newC E B t_267 (N' := 40) (by decide) (by decide +kernel) (by decide) (Nat.le_of_ble_eq_true rfl) (Nat.le_of_ble_eq_true rfl) dX4_init_7 (fun q_1 H B => ?_)
  have B : zB G A s.heap [zo a0 3 [.null, .int 0, .int 0], zc G q_1 40 (fun _ => none)] _ _ := B
  refine z_putF E B z_inX4 tyX4 tyX4_ok nmX4 (ci := 3) rfl 0 (by decide) rfl (ty := (.array (.object "BackLogic$Cascade"))) (by decide +kernel) t_269 rfl hin 0 rfl (Nat.le_of_ble_eq_true rfl) rfl rfl dX4_init_10 (fun H locs B => ?_)
  have B : zB G A s.heap [zo a0 3 [.ref q_1, .int 0, .int 0], zc G q_1 40 (fun _ => none)] _ _ := B
  refine lv_iconst (v := 0) E.x E.b dX4_init_13 (by decide) ?_
  refine lv_istore_n (lv' := [(1, .int 0), (0, .ref a0)]) E.x E.b dX4_init_14 rfl hl (by decide) rfl (fun ls hl => ?_)
  refine lv_iload_n E.x E.b dX4_init_15 rfl (lv_at hl 0 rfl) ?_
  refine lv_bipush (v := 40) E.x E.b dX4_init_16 (by decide) ?_
  refine lv_icmp_ge (tgt := 42) E.x E.b dX4_init_18 (by decide) (fun c => absurd c (by decide +kernel)) (fun _ => ?_)
  refine lv_aload_n E.x E.b dX4_init_21 rfl (lv_at hl 1 rfl) ?_
  refine z_get E B z_inX4 (ci := 3) rfl 0 (by decide) t_269 0 rfl rfl dX4_init_22 ?_
  refine lv_iload_n E.x E.b dX4_init_25 rfl (lv_at hl 0 rfl) ?_
  refine z_new E B z_inX0 tyX0 tyX0_ok t_267 t_240 t_126 (ci := 0) rfl (fs := [.null, .int 0]) (by decide +kernel) (Nat.le_of_ble_eq_true rfl) (Nat.le_of_ble_eq_true rfl) dX4_init_26 (fun q_2 H B => ?_)
  have B : zB G A s.heap [zo a0 3 [.ref q_1, .int 0, .int 0], zc G q_1 40 (fun _ => none), zo q_2 0 [.null, .int 0]] _ _ := B
  refine lv_dup E.x E.b dX4_init_29 rfl ?_
  refine lv_bipush (v := 16) E.x E.b dX4_init_30 (by decide) ?_
  refine z_callv E B (wc := [zo q_2 0 [.null, .int 0]]) (wr := [zo a0 3 [.ref q_1, .int 0, .int 0], zc G q_1 40 (fun _ => none)]) [2] [0, 1] rfl rfl (by decide) (by decide) (z_runI E B (As := [.int 16]) (rest := [.ref q_2, .int 0, .ref q_1]) [2] rfl (by decide) mi_X0_init t_268 (c_X0_init_4 l G _ q_2) rfl rfl ⟨Nat.le_of_ble_eq_true rfl, Nat.le_of_ble_eq_true rfl⟩ rfl hl.1 rfl (Nat.le_of_ble_eq_true rfl) dX4_init_32 ⟨(Nat.le_of_ble_eq_true rfl), (Nat.le_of_ble_eq_true rfl)⟩) (fun  t H locs hp hB J => ?_)
  obtain ⟨q_3, hq⟩ := hB
  have B := J _ hq
  have B : zB G A s.heap [zo a0 3 [.ref q_1, .int 0, .int 0], zc G q_1 40 (fun _ => none), zo q_2 0 [.ref q_3, .int 0], zi G q_3 16 (fun _ => 0)] _ _ := B
  refine z_aast E B 1 2 rfl rfl (show ¬ ((0 : Int32) < 0 ∨ 40 ≤ (0 : Int32).toNatClampNeg) by decide +kernel) dX4_init_35 (fun H locs B => ?_)
  have B : zB G A s.heap [zo a0 3 [.ref q_1, .int 0, .int 0], zc G q_1 40 (va_up (fun _ => none) 0 (some q_2)), zo q_2 0 [.ref q_3, .int 0], zi G q_3 16 (fun _ => 0)] _ _ := B
  refine lv_iinc (v := 1) (lv' := [(1, .int 1), (0, .ref a0)]) E.x E.b dX4_init_36 hl (k := 0) rfl (by decide +kernel) (by decide) rfl (fun ls hl => ?_)
  refine lv_goto (tgt := 15) E.x E.b dX4_init_39 (by decide) ?_
  refine z_loop 39 (fun i => 3 + 2 * i) (fun i => 58 + 18 * i) (fun i H locs ls => (∃ f : Nat → Option Nat, f 0 = some q_2 ∧ zB G A s.heap [zo a0 3 [.ref q_1, .int 0, .int 0], zc G q_1 40 f, zo q_2 0 [.ref q_3, .int 0], zi G q_3 16 (fun _ => 0)] H locs) ∧ lv_has ls 2 [(1, .int (nI (1 + i))), (0, .ref a0)]) (Nat.le_of_ble_eq_true rfl) (Nat.le_of_ble_eq_true rfl) ⟨⟨_, rfl, B⟩, hl⟩ (fun i4 H locs ls hi ih hI => ?_) (fun H locs ls hI => ?_)
  · obtain ⟨⟨g_5, hf_6, B⟩, hl⟩ := hI
    have hl : lv_has ls 2 [(1, .int (nI (1 + i4))), (0, .ref a0)] := hl
    have hii : (nI (1 + i4)).toInt = ((1 + i4 : Nat) : Int) := nI_toInt (by omega)
    refine lv_iload_n E.x E.b dX4_init_15 rfl (lv_at hl 0 rfl) ?_
    refine lv_bipush (v := 40) E.x E.b dX4_init_16 (by decide) ?_
    refine lv_icmp_ge (tgt := 42) E.x E.b dX4_init_18 (by decide) (fun c_7 => ?_) (fun c_7 => ?_)
    · have c_7f : 40 ≤ (nI (1 + i4)).toInt := zi_le c_7
      exfalso; omega
    · have c_7f : (nI (1 + i4)).toInt < 40 := zi_nle c_7
      refine lv_aload_n E.x E.b dX4_init_21 rfl (lv_at hl 1 rfl) ?_
      refine z_get E B z_inX4 (ci := 3) rfl 0 (by decide) t_269 0 rfl rfl dX4_init_22 ?_
      refine lv_iload_n E.x E.b dX4_init_25 rfl (lv_at hl 0 rfl) ?_
      refine z_new E B z_inX0 tyX0 tyX0_ok t_267 t_240 t_126 (ci := 0) rfl (fs := [.null, .int 0]) (by decide +kernel) (by show 3 + 2 * i4 + 1 ≤ 81; omega) (by show 58 + 18 * i4 + 2 ≤ 760; omega) dX4_init_26 (fun q_8 H B => ?_)
      have B : zB G A s.heap [zo a0 3 [.ref q_1, .int 0, .int 0], zc G q_1 40 g_5, zo q_2 0 [.ref q_3, .int 0], zi G q_3 16 (fun _ => 0), zo q_8 0 [.null, .int 0]] _ _ := B
      refine lv_dup E.x E.b dX4_init_29 rfl ?_
      refine lv_bipush (v := 16) E.x E.b dX4_init_30 (by decide) ?_
      refine z_callv E B (wc := [zo q_8 0 [.null, .int 0]]) (wr := [zo a0 3 [.ref q_1, .int 0, .int 0], zc G q_1 40 g_5, zo q_2 0 [.ref q_3, .int 0], zi G q_3 16 (fun _ => 0)]) [4] [0, 1, 2, 3] rfl rfl (by decide) (by decide) (z_runI E B (As := [.int 16]) (rest := [.ref q_8, .int (nI (1 + i4)), .ref q_1]) [4] rfl (by decide) mi_X0_init t_268 (c_X0_init_4 l G _ q_8) rfl rfl ⟨Nat.le_of_ble_eq_true rfl, Nat.le_of_ble_eq_true rfl⟩ rfl hl.1 rfl (Nat.le_of_ble_eq_true rfl) dX4_init_32 ⟨(by show 3 + 2 * i4 + 2 ≤ 81; omega), (by show 58 + 18 * i4 + 18 ≤ 760; omega)⟩) (fun  t H locs hp hB J => ?_)
      obtain ⟨q_9, hq⟩ := hB
      have B := J _ hq
      have B : zB G A s.heap [zo a0 3 [.ref q_1, .int 0, .int 0], zc G q_1 40 g_5, zo q_2 0 [.ref q_3, .int 0], zi G q_3 16 (fun _ => 0), zo q_8 0 [.ref q_9, .int 0], zi G q_9 16 (fun _ => 0)] _ _ := B
      refine z_aast E B 1 4 rfl rfl (vp_in_nI (by omega) (by decide)) dX4_init_35 (fun H locs B => ?_)
      obtain ⟨g_10, hf_11, B⟩ : ∃ g_10 : Nat → Option Nat, (g_10 0 = some q_2) ∧ zB G A s.heap [zo a0 3 [.ref q_1, .int 0, .int 0], zc G q_1 40 g_10, zo q_2 0 [.ref q_3, .int 0], zi G q_3 16 (fun _ => 0), zo q_8 0 [.ref q_9, .int 0], zi G q_9 16 (fun _ => 0)] _ _ := ⟨_, by rw [va_up_ne _ _ (by rw [nI_clamp (by omega)]; omega)]; exact hf_6, B⟩
      have B : zB G A s.heap [zo a0 3 [.ref q_1, .int 0, .int 0], zc G q_1 40 g_10, zo q_2 0 [.ref q_3, .int 0], zi G q_3 16 (fun _ => 0), zo q_8 0 [.ref q_9, .int 0], zi G q_9 16 (fun _ => 0)] _ _ := B
      refine lv_iinc (v := (nI ((1 + i4) + 1))) (lv' := [(1, .int (nI ((1 + i4) + 1))), (0, .ref a0)]) E.x E.b dX4_init_36 hl (k := 0) rfl (nI_1 _) (by decide) rfl (fun ls hl => ?_)
      refine lv_goto (tgt := 15) E.x E.b dX4_init_39 (by decide) ?_
      refine W.widen (k := 3 + 2 * (i4 + 1)) (n := 58 + 18 * (i4 + 1)) (by omega) (by omega) ?_
      have B := z_sub (wr := [zo a0 3 [.ref q_1, .int 0, .int 0], zc G q_1 40 g_10, zo q_2 0 [.ref q_3, .int 0], zi G q_3 16 (fun _ => 0)]) B [0, 1, 2, 3] (by decide) rfl
      exact ih _ _ _ ⟨⟨_, hf_11, B⟩, lv_sub hl [0, 1] rfl⟩
  · obtain ⟨⟨g_12, hf_13, B⟩, hl⟩ := hI
    have hl : lv_has ls 2 [(1, .int 40), (0, .ref a0)] := hl
    refine lv_iload_n E.x E.b dX4_init_15 rfl (lv_at hl 0 rfl) ?_
    refine lv_bipush (v := 40) E.x E.b dX4_init_16 (by decide) ?_
    refine lv_icmp_ge (tgt := 42) E.x E.b dX4_init_18 (by decide) (fun _ => ?_) (fun c => absurd (by decide +kernel) c)
    refine W.widen (k := 81) (n := 760) (Nat.le_of_ble_eq_true rfl) (Nat.le_of_ble_eq_true rfl) ?_
    exact z_vret E hr hlocks B trivial (fun t ht => ⟨q_1, q_2, q_3, _, hf_13, z_q B [0, 1, 2, 3] (by decide) rfl ht⟩) dX4_init_42
set_option maxHeartbeats 4000000 in
set_option maxRecDepth 100000 in
theorem c_X0_init_6 (l : Launch) (G : zGT) (sz : Nat) (a0 : Nat) : Met l yX0_init (.code yX0_init cX0_init 2 none :: zT) ({ frames := 1, cells := 1, slots := 384, locals := 64 }) (va_Pc [.ref a0, .int 384] (zPc G [zo a0 0 [.null, .int 0]] sz)) ((fun A => va_Qv (fun (_ : Unit) => True) (fun (_ : Unit) t => ∃ (q_1 : Nat), zQ G [zo a0 0 [.ref q_1, .int 0], zi G q_1 384 (fun _ => 0)] A t) A) (va_A [zo a0 0 [.null, .int 0]] sz)) 1 384 (va_A [zo a0 0 [.null, .int 0]] sz) := by
  refine z_start (y := yX0_init) (bytes := cX0_init) (maxL := 2) (ret := none) (av := [.ref a0, .int 384]) (QA := (fun A => va_Qv (fun (_ : Unit) => True) (fun (_ : Unit) t => ∃ (q_1 : Nat), zQ G [zo a0 0 [.ref q_1, .int 0], zi G q_1 384 (fun _ => 0)] A t) A)) (by decide) ⟨Nat.le_of_ble_eq_true rfl, trivial⟩ ?_
  intro p e s m below meth c A ls E B hr hlocks hin hl
  have hl : lv_has ls 2 [(0, .ref a0), (1, .int 384)] := hl
  have B : zB G A s.heap [zo a0 0 [.null, .int 0]] s.heap [] := B
  refine lv_aload_n E.x E.b dX0_init_0 rfl (lv_at hl 0 rfl) ?_
  refine z_objInit E (lv_sub hl [] rfl) t_244 t_148 t_objcode dX0_init_1 (Nat.le_of_ble_eq_true rfl) (Nat.le_of_ble_eq_true rfl) ?_
  refine lv_aload_n E.x E.b dX0_init_4 rfl (lv_at hl 0 rfl) ?_
  refine lv_iload_n E.x E.b dX0_init_5 rfl (lv_at hl 1 rfl) ?_
  refine lv_iconst (v := 0) E.x E.b dX0_init_6 (by decide) ?_
  refine va_mmax E.x E.b (E.1.2.2.1.trans hl.1.symm) E.ow (E.w t_mlX0_9) (E.w t_mmax1) (E.w t_127) (E.w t_mmax2) (Nat.le_of_ble_eq_true rfl) (Nat.le_of_ble_eq_true rfl) (Nat.le_of_ble_eq_true rfl) (Nat.le_of_ble_eq_true rfl) dX0_init_7 (z_topi 384 (by decide +kernel) ?_)
  refine z_newI E B t_193 (N' := 384) (by decide) (by decide +kernel) (by decide) (Nat.le_of_ble_eq_true rfl) (Nat.le_of_ble_eq_true rfl) dX0_init_10 (fun q_1 H B => ?_)
  have B : zB G A s.heap [zo a0 0 [.null, .int 0], zi G q_1 384 (fun _ => 0)] _ _ := B
  refine z_putF E B z_inX0 tyX0 tyX0_ok nmX0 (ci := 0) rfl 0 (by decide) rfl (ty := (.array .int)) (by decide +kernel) t_248 rfl hin 0 rfl (Nat.le_of_ble_eq_true rfl) rfl rfl dX0_init_12 (fun H locs B => ?_)
  have B : zB G A s.heap [zo a0 0 [.ref q_1, .int 0], zi G q_1 384 (fun _ => 0)] _ _ := B
  refine W.widen (k := 1) (n := 384) (Nat.le_of_ble_eq_true rfl) (Nat.le_of_ble_eq_true rfl) ?_
  exact z_vret E hr hlocks B trivial (fun t ht => ⟨q_1, z_q B [0, 1] (by decide) rfl ht⟩) dX0_init_15
set_option maxHeartbeats 4000000 in
set_option maxRecDepth 100000 in
theorem c_X1_init_7 (l : Launch) (G : zGT) (sz : Nat) (a0 : Nat) : Met l yX1_init (.code yX1_init cX1_init 1 none :: zT) ({ frames := 2, cells := 5, slots := 836, locals := 85 }) (va_Pc [.ref a0] (zPc G [zo a0 1 [.null, .null, .null]] sz)) ((fun A => va_Qv (fun (_ : Unit) => True) (fun (_ : Unit) t => ∃ (q_1 : Nat) (q_2 : Nat) (q_4 : Nat) (q_3 : Nat) (q_5 : Nat), zQ G [zo a0 1 [.ref q_1, .ref q_2, .ref q_4], zi G q_1 64 (fun _ => 0), zo q_2 0 [.ref q_3, .int 0], zi G q_3 384 (fun _ => 0), zo q_4 0 [.ref q_5, .int 0], zi G q_5 384 (fun _ => 0)] A t) A) (va_A [zo a0 1 [.null, .null, .null]] sz)) 5 836 (va_A [zo a0 1 [.null, .null, .null]] sz) := by
  refine z_start (y := yX1_init) (bytes := cX1_init) (maxL := 1) (ret := none) (av := [.ref a0]) (QA := (fun A => va_Qv (fun (_ : Unit) => True) (fun (_ : Unit) t => ∃ (q_1 : Nat) (q_2 : Nat) (q_4 : Nat) (q_3 : Nat) (q_5 : Nat), zQ G [zo a0 1 [.ref q_1, .ref q_2, .ref q_4], zi G q_1 64 (fun _ => 0), zo q_2 0 [.ref q_3, .int 0], zi G q_3 384 (fun _ => 0), zo q_4 0 [.ref q_5, .int 0], zi G q_5 384 (fun _ => 0)] A t) A)) (by decide) ⟨Nat.le_of_ble_eq_true rfl, trivial⟩ ?_
  intro p e s m below meth c A ls E B hr hlocks hin hl
  have hl : lv_has ls 1 [(0, .ref a0)] := hl
  have B : zB G A s.heap [zo a0 1 [.null, .null, .null]] s.heap [] := B
  refine lv_aload_n E.x E.b dX1_init_0 rfl (lv_at hl 0 rfl) ?_
  refine z_objInit E (lv_sub hl [] rfl) t_286 t_148 t_objcode dX1_init_1 (Nat.le_of_ble_eq_true rfl) (Nat.le_of_ble_eq_true rfl) ?_
  refine lv_aload_n E.x E.b dX1_init_4 rfl (lv_at hl 0 rfl) ?_
  refine lv_bipush (v := 64) E.x E.b dX1_init_5 (by decide) ?_
  refine z_newI E B t_193 (N' := 64) (by decide) (by decide +kernel) (by decide) (Nat.le_of_ble_eq_true rfl) (Nat.le_of_ble_eq_true rfl) dX1_init_7 (fun q_1 H B => ?_)
  have B : zB G A s.heap [zo a0 1 [.null, .null, .null], zi G q_1 64 (fun _ => 0)] _ _ := B
  refine z_putF E B z_inX1 tyX1 tyX1_ok nmX1 (ci := 1) rfl 0 (by decide) rfl (ty := (.array .int)) (by decide +kernel) t_289 rfl hin 0 rfl (Nat.le_of_ble_eq_true rfl) rfl rfl dX1_init_9 (fun H locs B => ?_)
  have B : zB G A s.heap [zo a0 1 [.ref q_1, .null, .null], zi G q_1 64 (fun _ => 0)] _ _ := B
  refine lv_aload_n E.x E.b dX1_init_12 rfl (lv_at hl 0 rfl) ?_
  refine z_new E B z_inX0 tyX0 tyX0_ok t_287 t_240 t_126 (ci := 0) rfl (fs := [.null, .int 0]) (by decide +kernel) (Nat.le_of_ble_eq_true rfl) (Nat.le_of_ble_eq_true rfl) dX1_init_13 (fun q_2 H B => ?_)
  have B : zB G A s.heap [zo a0 1 [.ref q_1, .null, .null], zi G q_1 64 (fun _ => 0), zo q_2 0 [.null, .int 0]] _ _ := B
  refine lv_dup E.x E.b dX1_init_16 rfl ?_
  refine lv_sipush (v := 384) E.x E.b dX1_init_17 (by decide) ?_
  refine z_callv E B (wc := [zo q_2 0 [.null, .int 0]]) (wr := [zo a0 1 [.ref q_1, .null, .null], zi G q_1 64 (fun _ => 0)]) [2] [0, 1] rfl rfl (by decide) (by decide) (z_runI E B (As := [.int 384]) (rest := [.ref q_2, .ref a0]) [2] rfl (by decide) mi_X0_init t_288 (c_X0_init_6 l G _ q_2) rfl rfl ⟨Nat.le_of_ble_eq_true rfl, Nat.le_of_ble_eq_true rfl⟩ rfl hl.1 rfl (Nat.le_of_ble_eq_true rfl) dX1_init_20 ⟨(Nat.le_of_ble_eq_true rfl), (Nat.le_of_ble_eq_true rfl)⟩) (fun  t H locs hp hB J => ?_)
  obtain ⟨q_3, hq⟩ := hB
  have B := J _ hq
  have B : zB G A s.heap [zo a0 1 [.ref q_1, .null, .null], zi G q_1 64 (fun _ => 0), zo q_2 0 [.ref q_3, .int 0], zi G q_3 384 (fun _ => 0)] _ _ := B
  refine z_putF E B z_inX1 tyX1 tyX1_ok nmX1 (ci := 1) rfl 1 (by decide) rfl (ty := (.object "BackLogic$Cascade")) (by decide +kernel) t_291 rfl hin 0 rfl (Nat.le_of_ble_eq_true rfl) rfl rfl dX1_init_23 (fun H locs B => ?_)
  have B : zB G A s.heap [zo a0 1 [.ref q_1, .ref q_2, .null], zi G q_1 64 (fun _ => 0), zo q_2 0 [.ref q_3, .int 0], zi G q_3 384 (fun _ => 0)] _ _ := B
  refine lv_aload_n E.x E.b dX1_init_26 rfl (lv_at hl 0 rfl) ?_
  refine z_new E B z_inX0 tyX0 tyX0_ok t_287 t_240 t_126 (ci := 0) rfl (fs := [.null, .int 0]) (by decide +kernel) (Nat.le_of_ble_eq_true rfl) (Nat.le_of_ble_eq_true rfl) dX1_init_27 (fun q_4 H B => ?_)
  have B : zB G A s.heap [zo a0 1 [.ref q_1, .ref q_2, .null], zi G q_1 64 (fun _ => 0), zo q_2 0 [.ref q_3, .int 0], zi G q_3 384 (fun _ => 0), zo q_4 0 [.null, .int 0]] _ _ := B
  refine lv_dup E.x E.b dX1_init_30 rfl ?_
  refine lv_sipush (v := 384) E.x E.b dX1_init_31 (by decide) ?_
  refine z_callv E B (wc := [zo q_4 0 [.null, .int 0]]) (wr := [zo a0 1 [.ref q_1, .ref q_2, .null], zi G q_1 64 (fun _ => 0), zo q_2 0 [.ref q_3, .int 0], zi G q_3 384 (fun _ => 0)]) [4] [0, 1, 2, 3] rfl rfl (by decide) (by decide) (z_runI E B (As := [.int 384]) (rest := [.ref q_4, .ref a0]) [4] rfl (by decide) mi_X0_init t_288 (c_X0_init_6 l G _ q_4) rfl rfl ⟨Nat.le_of_ble_eq_true rfl, Nat.le_of_ble_eq_true rfl⟩ rfl hl.1 rfl (Nat.le_of_ble_eq_true rfl) dX1_init_34 ⟨(Nat.le_of_ble_eq_true rfl), (Nat.le_of_ble_eq_true rfl)⟩) (fun  t H locs hp hB J => ?_)
  obtain ⟨q_5, hq⟩ := hB
  have B := J _ hq
  have B : zB G A s.heap [zo a0 1 [.ref q_1, .ref q_2, .null], zi G q_1 64 (fun _ => 0), zo q_2 0 [.ref q_3, .int 0], zi G q_3 384 (fun _ => 0), zo q_4 0 [.ref q_5, .int 0], zi G q_5 384 (fun _ => 0)] _ _ := B
  refine z_putF E B z_inX1 tyX1 tyX1_ok nmX1 (ci := 1) rfl 2 (by decide) rfl (ty := (.object "BackLogic$Cascade")) (by decide +kernel) t_293 rfl hin 0 rfl (Nat.le_of_ble_eq_true rfl) rfl rfl dX1_init_37 (fun H locs B => ?_)
  have B : zB G A s.heap [zo a0 1 [.ref q_1, .ref q_2, .ref q_4], zi G q_1 64 (fun _ => 0), zo q_2 0 [.ref q_3, .int 0], zi G q_3 384 (fun _ => 0), zo q_4 0 [.ref q_5, .int 0], zi G q_5 384 (fun _ => 0)] _ _ := B
  refine W.widen (k := 5) (n := 836) (Nat.le_of_ble_eq_true rfl) (Nat.le_of_ble_eq_true rfl) ?_
  exact z_vret E hr hlocks B trivial (fun t ht => ⟨q_1, q_2, q_4, q_3, q_5, z_q B [0, 1, 2, 3, 4, 5] (by decide) rfl ht⟩) dX1_init_40
set_option maxHeartbeats 4000000 in
set_option maxRecDepth 100000 in
theorem c_X9_init_8 (l : Launch) (G : zGT) (sz : Nat) (a0 : Nat) : Met l yX9_init (.code yX9_init cX9_init 1 none :: zT) ({ frames := 1, cells := 2, slots := 24, locals := 64 }) (va_Pc [.ref a0] (zPc G [zo a0 7 [.null, .null, .int 0, .int 0]] sz)) ((fun A => va_Qv (fun (_ : Unit) => True) (fun (_ : Unit) t => ∃ (q_1 : Nat) (q_2 : Nat), zQ G [zo a0 7 [.ref q_1, .ref q_2, .int 0, .int 0], zi G q_1 16 (fun _ => 0), zi G q_2 8 (fun _ => 0)] A t) A) (va_A [zo a0 7 [.null, .null, .int 0, .int 0]] sz)) 2 24 (va_A [zo a0 7 [.null, .null, .int 0, .int 0]] sz) := by
  refine z_start (y := yX9_init) (bytes := cX9_init) (maxL := 1) (ret := none) (av := [.ref a0]) (QA := (fun A => va_Qv (fun (_ : Unit) => True) (fun (_ : Unit) t => ∃ (q_1 : Nat) (q_2 : Nat), zQ G [zo a0 7 [.ref q_1, .ref q_2, .int 0, .int 0], zi G q_1 16 (fun _ => 0), zi G q_2 8 (fun _ => 0)] A t) A)) (by decide) ⟨Nat.le_of_ble_eq_true rfl, trivial⟩ ?_
  intro p e s m below meth c A ls E B hr hlocks hin hl
  have hl : lv_has ls 1 [(0, .ref a0)] := hl
  have B : zB G A s.heap [zo a0 7 [.null, .null, .int 0, .int 0]] s.heap [] := B
  refine lv_aload_n E.x E.b dX9_init_0 rfl (lv_at hl 0 rfl) ?_
  refine z_objInit E (lv_sub hl [] rfl) t_306 t_148 t_objcode dX9_init_1 (Nat.le_of_ble_eq_true rfl) (Nat.le_of_ble_eq_true rfl) ?_
  refine lv_aload_n E.x E.b dX9_init_4 rfl (lv_at hl 0 rfl) ?_
  refine lv_bipush (v := 16) E.x E.b dX9_init_5 (by decide) ?_
  refine z_newI E B t_193 (N' := 16) (by decide) (by decide +kernel) (by decide) (Nat.le_of_ble_eq_true rfl) (Nat.le_of_ble_eq_true rfl) dX9_init_7 (fun q_1 H B => ?_)
  have B : zB G A s.heap [zo a0 7 [.null, .null, .int 0, .int 0], zi G q_1 16 (fun _ => 0)] _ _ := B
  refine z_putF E B z_inX9 tyX9 tyX9_ok nmX9 (ci := 7) rfl 0 (by decide) rfl (ty := (.array .int)) (by decide +kernel) t_307 rfl hin 0 rfl (Nat.le_of_ble_eq_true rfl) rfl rfl dX9_init_9 (fun H locs B => ?_)
  have B : zB G A s.heap [zo a0 7 [.ref q_1, .null, .int 0, .int 0], zi G q_1 16 (fun _ => 0)] _ _ := B
  refine lv_aload_n E.x E.b dX9_init_12 rfl (lv_at hl 0 rfl) ?_
  refine lv_bipush (v := 8) E.x E.b dX9_init_13 (by decide) ?_
  refine z_newI E B t_193 (N' := 8) (by decide) (by decide +kernel) (by decide) (Nat.le_of_ble_eq_true rfl) (Nat.le_of_ble_eq_true rfl) dX9_init_15 (fun q_2 H B => ?_)
  have B : zB G A s.heap [zo a0 7 [.ref q_1, .null, .int 0, .int 0], zi G q_1 16 (fun _ => 0), zi G q_2 8 (fun _ => 0)] _ _ := B
  refine z_putF E B z_inX9 tyX9 tyX9_ok nmX9 (ci := 7) rfl 1 (by decide) rfl (ty := (.array .int)) (by decide +kernel) t_308 rfl hin 0 rfl (Nat.le_of_ble_eq_true rfl) rfl rfl dX9_init_17 (fun H locs B => ?_)
  have B : zB G A s.heap [zo a0 7 [.ref q_1, .ref q_2, .int 0, .int 0], zi G q_1 16 (fun _ => 0), zi G q_2 8 (fun _ => 0)] _ _ := B
  refine W.widen (k := 2) (n := 24) (Nat.le_of_ble_eq_true rfl) (Nat.le_of_ble_eq_true rfl) ?_
  exact z_vret E hr hlocks B trivial (fun t ht => ⟨q_1, q_2, z_q B [0, 1, 2] (by decide) rfl ht⟩) dX9_init_20
set_option maxHeartbeats 4000000 in
set_option maxRecDepth 100000 in
theorem c_X10_init_9 (l : Launch) (G : zGT) (sz : Nat) (a0 : Nat) : Met l yX10_init (.code yX10_init cX10_init 1 none :: zT) ({ frames := 1, cells := 1, slots := 8, locals := 64 }) (va_Pc [.ref a0] (zPc G [zo a0 8 [.int 0, .int 0, .int 0, .int 0, .int 0, .int 0, .null]] sz)) ((fun A => va_Qv (fun (_ : Unit) => True) (fun (_ : Unit) t => ∃ (q_1 : Nat), zQ G [zo a0 8 [.int 0, .int 0, .int 0, .int 0, .int 0, .int 0, .ref q_1], zi G q_1 8 (fun _ => 0)] A t) A) (va_A [zo a0 8 [.int 0, .int 0, .int 0, .int 0, .int 0, .int 0, .null]] sz)) 1 8 (va_A [zo a0 8 [.int 0, .int 0, .int 0, .int 0, .int 0, .int 0, .null]] sz) := by
  refine z_start (y := yX10_init) (bytes := cX10_init) (maxL := 1) (ret := none) (av := [.ref a0]) (QA := (fun A => va_Qv (fun (_ : Unit) => True) (fun (_ : Unit) t => ∃ (q_1 : Nat), zQ G [zo a0 8 [.int 0, .int 0, .int 0, .int 0, .int 0, .int 0, .ref q_1], zi G q_1 8 (fun _ => 0)] A t) A)) (by decide) ⟨Nat.le_of_ble_eq_true rfl, trivial⟩ ?_
  intro p e s m below meth c A ls E B hr hlocks hin hl
  have hl : lv_has ls 1 [(0, .ref a0)] := hl
  have B : zB G A s.heap [zo a0 8 [.int 0, .int 0, .int 0, .int 0, .int 0, .int 0, .null]] s.heap [] := B
  refine lv_aload_n E.x E.b dX10_init_0 rfl (lv_at hl 0 rfl) ?_
  refine z_objInit E (lv_sub hl [] rfl) t_327 t_148 t_objcode dX10_init_1 (Nat.le_of_ble_eq_true rfl) (Nat.le_of_ble_eq_true rfl) ?_
  refine lv_aload_n E.x E.b dX10_init_4 rfl (lv_at hl 0 rfl) ?_
  refine lv_bipush (v := 8) E.x E.b dX10_init_5 (by decide) ?_
  refine z_newI E B t_193 (N' := 8) (by decide) (by decide +kernel) (by decide) (Nat.le_of_ble_eq_true rfl) (Nat.le_of_ble_eq_true rfl) dX10_init_7 (fun q_1 H B => ?_)
  have B : zB G A s.heap [zo a0 8 [.int 0, .int 0, .int 0, .int 0, .int 0, .int 0, .null], zi G q_1 8 (fun _ => 0)] _ _ := B
  refine z_putF E B z_inX10 tyX10 tyX10_ok nmX10 (ci := 8) rfl 6 (by decide) rfl (ty := (.array .int)) (by decide +kernel) t_343 rfl hin 0 rfl (Nat.le_of_ble_eq_true rfl) rfl rfl dX10_init_9 (fun H locs B => ?_)
  have B : zB G A s.heap [zo a0 8 [.int 0, .int 0, .int 0, .int 0, .int 0, .int 0, .ref q_1], zi G q_1 8 (fun _ => 0)] _ _ := B
  refine W.widen (k := 1) (n := 8) (Nat.le_of_ble_eq_true rfl) (Nat.le_of_ble_eq_true rfl) ?_
  exact z_vret E hr hlocks B trivial (fun t ht => ⟨q_1, z_q B [0, 1] (by decide) rfl ht⟩) dX10_init_12
set_option maxHeartbeats 4000000 in
set_option maxRecDepth 100000 in
theorem c_X12_appends_10 (l : Launch) (G : zGT) (sz : Nat) : Met l yX12_appends (.code yX12_appends cX12_appends 3 (some .long) :: zT) ({ frames := 0, cells := 0, slots := 0, locals := 64 }) (va_Pc [.long 0, .int 119] (zPc G [] sz)) ((fun A => va_Ql (fun (r : Int64) (_ : Unit) => r = 23) (fun (_ : Unit) t => zQ G [] A t) A) (va_A [] sz)) 0 0 (va_A [] sz) := by
  refine z_start (y := yX12_appends) (bytes := cX12_appends) (maxL := 3) (ret := (some .long)) (av := [.long 0, .int 119]) (QA := (fun A => va_Ql (fun (r : Int64) (_ : Unit) => r = 23) (fun (_ : Unit) t => zQ G [] A t) A)) (by decide) ⟨Nat.le_of_ble_eq_true rfl, trivial⟩ ?_
  intro p e s m below meth c A ls E B hr hlocks hin hl
  have hl : lv_has ls 3 [(0, .long 0), (2, .int 119)] := hl
  have B : zB G A s.heap [] s.heap [] := B
  refine lv_iload_n E.x E.b dX12_appends_0 rfl (lv_at hl 1 rfl) ?_
  refine lv_if_ne (tgt := 8) E.x E.b dX12_appends_1 (by decide) (fun _ => ?_) (fun c => absurd c (by decide +kernel))
  refine lv_ldc2 E.x E.b E.ow (E.w t_1192) dX12_appends_8 ?_
  refine lv_lload_n E.x E.b dX12_appends_11 rfl (lv_at hl 0 rfl) ?_
  refine lv_lmul E.x E.b dX12_appends_12 (z_topl 0 (by decide +kernel) ?_)
  refine lv_iload_n E.x E.b dX12_appends_13 rfl (lv_at hl 1 rfl) ?_
  refine lv_bipush (v := 97) E.x E.b dX12_appends_14 (by decide) ?_
  refine lv_isub E.x E.b dX12_appends_16 (z_topi 22 (by decide +kernel) ?_)
  refine lv_iconst (v := 1) E.x E.b dX12_appends_17 (by decide) ?_
  refine lv_iadd E.x E.b dX12_appends_18 (z_topi 23 (by decide +kernel) ?_)
  refine lv_i2l (v := 23) E.x E.b dX12_appends_19 (by decide +kernel) ?_
  refine lv_ladd E.x E.b dX12_appends_20 (z_topl 23 (by decide +kernel) ?_)
  refine W.widen (k := 0) (n := 0) (Nat.le_of_ble_eq_true rfl) (Nat.le_of_ble_eq_true rfl) ?_
  exact z_lret E hr hlocks B (v := 23) rfl (fun t ht => z_q B [] (by decide) rfl ht) dX12_appends_21
set_option maxHeartbeats 4000000 in
set_option maxRecDepth 100000 in
theorem c_X12_appends_11 (l : Launch) (G : zGT) (sz : Nat) : Met l yX12_appends (.code yX12_appends cX12_appends 3 (some .long) :: zT) ({ frames := 0, cells := 0, slots := 0, locals := 64 }) (va_Pc [.long 23, .int 105] (zPc G [] sz)) ((fun A => va_Ql (fun (r : Int64) (_ : Unit) => r = 630) (fun (_ : Unit) t => zQ G [] A t) A) (va_A [] sz)) 0 0 (va_A [] sz) := by
  refine z_start (y := yX12_appends) (bytes := cX12_appends) (maxL := 3) (ret := (some .long)) (av := [.long 23, .int 105]) (QA := (fun A => va_Ql (fun (r : Int64) (_ : Unit) => r = 630) (fun (_ : Unit) t => zQ G [] A t) A)) (by decide) ⟨Nat.le_of_ble_eq_true rfl, trivial⟩ ?_
  intro p e s m below meth c A ls E B hr hlocks hin hl
  have hl : lv_has ls 3 [(0, .long 23), (2, .int 105)] := hl
  have B : zB G A s.heap [] s.heap [] := B
  refine lv_iload_n E.x E.b dX12_appends_0 rfl (lv_at hl 1 rfl) ?_
  refine lv_if_ne (tgt := 8) E.x E.b dX12_appends_1 (by decide) (fun _ => ?_) (fun c => absurd c (by decide +kernel))
  refine lv_ldc2 E.x E.b E.ow (E.w t_1192) dX12_appends_8 ?_
  refine lv_lload_n E.x E.b dX12_appends_11 rfl (lv_at hl 0 rfl) ?_
  refine lv_lmul E.x E.b dX12_appends_12 (z_topl 621 (by decide +kernel) ?_)
  refine lv_iload_n E.x E.b dX12_appends_13 rfl (lv_at hl 1 rfl) ?_
  refine lv_bipush (v := 97) E.x E.b dX12_appends_14 (by decide) ?_
  refine lv_isub E.x E.b dX12_appends_16 (z_topi 8 (by decide +kernel) ?_)
  refine lv_iconst (v := 1) E.x E.b dX12_appends_17 (by decide) ?_
  refine lv_iadd E.x E.b dX12_appends_18 (z_topi 9 (by decide +kernel) ?_)
  refine lv_i2l (v := 9) E.x E.b dX12_appends_19 (by decide +kernel) ?_
  refine lv_ladd E.x E.b dX12_appends_20 (z_topl 630 (by decide +kernel) ?_)
  refine W.widen (k := 0) (n := 0) (Nat.le_of_ble_eq_true rfl) (Nat.le_of_ble_eq_true rfl) ?_
  exact z_lret E hr hlocks B (v := 630) rfl (fun t ht => z_q B [] (by decide) rfl ht) dX12_appends_21
set_option maxHeartbeats 4000000 in
set_option maxRecDepth 100000 in
theorem c_X12_appends_12 (l : Launch) (G : zGT) (sz : Nat) : Met l yX12_appends (.code yX12_appends cX12_appends 3 (some .long) :: zT) ({ frames := 0, cells := 0, slots := 0, locals := 64 }) (va_Pc [.long 630, .int 114] (zPc G [] sz)) ((fun A => va_Ql (fun (r : Int64) (_ : Unit) => r = 17028) (fun (_ : Unit) t => zQ G [] A t) A) (va_A [] sz)) 0 0 (va_A [] sz) := by
  refine z_start (y := yX12_appends) (bytes := cX12_appends) (maxL := 3) (ret := (some .long)) (av := [.long 630, .int 114]) (QA := (fun A => va_Ql (fun (r : Int64) (_ : Unit) => r = 17028) (fun (_ : Unit) t => zQ G [] A t) A)) (by decide) ⟨Nat.le_of_ble_eq_true rfl, trivial⟩ ?_
  intro p e s m below meth c A ls E B hr hlocks hin hl
  have hl : lv_has ls 3 [(0, .long 630), (2, .int 114)] := hl
  have B : zB G A s.heap [] s.heap [] := B
  refine lv_iload_n E.x E.b dX12_appends_0 rfl (lv_at hl 1 rfl) ?_
  refine lv_if_ne (tgt := 8) E.x E.b dX12_appends_1 (by decide) (fun _ => ?_) (fun c => absurd c (by decide +kernel))
  refine lv_ldc2 E.x E.b E.ow (E.w t_1192) dX12_appends_8 ?_
  refine lv_lload_n E.x E.b dX12_appends_11 rfl (lv_at hl 0 rfl) ?_
  refine lv_lmul E.x E.b dX12_appends_12 (z_topl 17010 (by decide +kernel) ?_)
  refine lv_iload_n E.x E.b dX12_appends_13 rfl (lv_at hl 1 rfl) ?_
  refine lv_bipush (v := 97) E.x E.b dX12_appends_14 (by decide) ?_
  refine lv_isub E.x E.b dX12_appends_16 (z_topi 17 (by decide +kernel) ?_)
  refine lv_iconst (v := 1) E.x E.b dX12_appends_17 (by decide) ?_
  refine lv_iadd E.x E.b dX12_appends_18 (z_topi 18 (by decide +kernel) ?_)
  refine lv_i2l (v := 18) E.x E.b dX12_appends_19 (by decide +kernel) ?_
  refine lv_ladd E.x E.b dX12_appends_20 (z_topl 17028 (by decide +kernel) ?_)
  refine W.widen (k := 0) (n := 0) (Nat.le_of_ble_eq_true rfl) (Nat.le_of_ble_eq_true rfl) ?_
  exact z_lret E hr hlocks B (v := 17028) rfl (fun t ht => z_q B [] (by decide) rfl ht) dX12_appends_21
set_option maxHeartbeats 4000000 in
set_option maxRecDepth 100000 in
theorem c_X12_appends_13 (l : Launch) (G : zGT) (sz : Nat) : Met l yX12_appends (.code yX12_appends cX12_appends 3 (some .long) :: zT) ({ frames := 0, cells := 0, slots := 0, locals := 64 }) (va_Pc [.long 17028, .int 101] (zPc G [] sz)) ((fun A => va_Ql (fun (r : Int64) (_ : Unit) => r = 459761) (fun (_ : Unit) t => zQ G [] A t) A) (va_A [] sz)) 0 0 (va_A [] sz) := by
  refine z_start (y := yX12_appends) (bytes := cX12_appends) (maxL := 3) (ret := (some .long)) (av := [.long 17028, .int 101]) (QA := (fun A => va_Ql (fun (r : Int64) (_ : Unit) => r = 459761) (fun (_ : Unit) t => zQ G [] A t) A)) (by decide) ⟨Nat.le_of_ble_eq_true rfl, trivial⟩ ?_
  intro p e s m below meth c A ls E B hr hlocks hin hl
  have hl : lv_has ls 3 [(0, .long 17028), (2, .int 101)] := hl
  have B : zB G A s.heap [] s.heap [] := B
  refine lv_iload_n E.x E.b dX12_appends_0 rfl (lv_at hl 1 rfl) ?_
  refine lv_if_ne (tgt := 8) E.x E.b dX12_appends_1 (by decide) (fun _ => ?_) (fun c => absurd c (by decide +kernel))
  refine lv_ldc2 E.x E.b E.ow (E.w t_1192) dX12_appends_8 ?_
  refine lv_lload_n E.x E.b dX12_appends_11 rfl (lv_at hl 0 rfl) ?_
  refine lv_lmul E.x E.b dX12_appends_12 (z_topl 459756 (by decide +kernel) ?_)
  refine lv_iload_n E.x E.b dX12_appends_13 rfl (lv_at hl 1 rfl) ?_
  refine lv_bipush (v := 97) E.x E.b dX12_appends_14 (by decide) ?_
  refine lv_isub E.x E.b dX12_appends_16 (z_topi 4 (by decide +kernel) ?_)
  refine lv_iconst (v := 1) E.x E.b dX12_appends_17 (by decide) ?_
  refine lv_iadd E.x E.b dX12_appends_18 (z_topi 5 (by decide +kernel) ?_)
  refine lv_i2l (v := 5) E.x E.b dX12_appends_19 (by decide +kernel) ?_
  refine lv_ladd E.x E.b dX12_appends_20 (z_topl 459761 (by decide +kernel) ?_)
  refine W.widen (k := 0) (n := 0) (Nat.le_of_ble_eq_true rfl) (Nat.le_of_ble_eq_true rfl) ?_
  exact z_lret E hr hlocks B (v := 459761) rfl (fun t ht => z_q B [] (by decide) rfl ht) dX12_appends_21
set_option maxHeartbeats 4000000 in
set_option maxRecDepth 100000 in
theorem c_X12_appends_14 (l : Launch) (G : zGT) (sz : Nat) : Met l yX12_appends (.code yX12_appends cX12_appends 3 (some .long) :: zT) ({ frames := 0, cells := 0, slots := 0, locals := 64 }) (va_Pc [.long 459761, .int 0] (zPc G [] sz)) ((fun A => va_Ql (fun (r : Int64) (_ : Unit) => r = 459761) (fun (_ : Unit) t => zQ G [] A t) A) (va_A [] sz)) 0 0 (va_A [] sz) := by
  refine z_start (y := yX12_appends) (bytes := cX12_appends) (maxL := 3) (ret := (some .long)) (av := [.long 459761, .int 0]) (QA := (fun A => va_Ql (fun (r : Int64) (_ : Unit) => r = 459761) (fun (_ : Unit) t => zQ G [] A t) A)) (by decide) ⟨Nat.le_of_ble_eq_true rfl, trivial⟩ ?_
  intro p e s m below meth c A ls E B hr hlocks hin hl
  have hl : lv_has ls 3 [(0, .long 459761), (2, .int 0)] := hl
  have B : zB G A s.heap [] s.heap [] := B
  refine lv_iload_n E.x E.b dX12_appends_0 rfl (lv_at hl 1 rfl) ?_
  refine lv_if_ne (tgt := 8) E.x E.b dX12_appends_1 (by decide) (fun c => absurd (by decide +kernel) c) (fun _ => ?_)
  refine lv_lload_n E.x E.b dX12_appends_4 rfl (lv_at hl 0 rfl) ?_
  refine lv_goto (tgt := 21) E.x E.b dX12_appends_5 (by decide) ?_
  refine W.widen (k := 0) (n := 0) (Nat.le_of_ble_eq_true rfl) (Nat.le_of_ble_eq_true rfl) ?_
  exact z_lret E hr hlocks B (v := 459761) rfl (fun t ht => z_q B [] (by decide) rfl ht) dX12_appends_21
set_option maxHeartbeats 4000000 in
set_option maxRecDepth 100000 in
theorem c_X12_letters_15 (l : Launch) (G : zGT) (sz : Nat) : Met l yX12_letters (.code yX12_letters cX12_letters 7 (some .long) :: zT) ({ frames := 1, cells := 0, slots := 0, locals := 86 }) (va_Pc [.int 119, .int 105, .int 114, .int 101, .int 0, .int 0, .int 0] (zPc G [] sz)) ((fun A => va_Ql (fun (r : Int64) (_ : Unit) => r = 459761) (fun (_ : Unit) t => zQ G [] A t) A) (va_A [] sz)) 0 0 (va_A [] sz) := by
  refine z_start (y := yX12_letters) (bytes := cX12_letters) (maxL := 7) (ret := (some .long)) (av := [.int 119, .int 105, .int 114, .int 101, .int 0, .int 0, .int 0]) (QA := (fun A => va_Ql (fun (r : Int64) (_ : Unit) => r = 459761) (fun (_ : Unit) t => zQ G [] A t) A)) (by decide) ⟨Nat.le_of_ble_eq_true rfl, trivial⟩ ?_
  intro p e s m below meth c A ls E B hr hlocks hin hl
  have hl : lv_has ls 7 [(0, .int 119), (1, .int 105), (2, .int 114), (3, .int 101), (4, .int 0), (5, .int 0), (6, .int 0)] := hl
  have B : zB G A s.heap [] s.heap [] := B
  refine lv_lconst (v := 0) E.x E.b dX12_letters_0 (by decide) ?_
  refine lv_iload_n E.x E.b dX12_letters_1 rfl (lv_at hl 0 rfl) ?_
  refine z_calll E B (wc := []) (wr := []) [] [] rfl rfl (by decide) (by decide) (z_runS E B (As := [.long 0, .int 119]) (rest := []) [] rfl (by decide) ms_X12_appends t_1189 (c_X12_appends_10 l G _) rfl rfl ⟨Nat.le_of_ble_eq_true rfl, Nat.le_of_ble_eq_true rfl⟩ rfl hl.1 rfl (Nat.le_of_ble_eq_true rfl) dX12_letters_2 ⟨(Nat.le_of_ble_eq_true rfl), (Nat.le_of_ble_eq_true rfl)⟩) (fun r t H locs hp hB J => ?_)
  have hq := hB
  have B := J _ hq
  have B : zB G A s.heap [] _ _ := B
  have hp := hp.symm
  subst hp
  refine lv_iload_n E.x E.b dX12_letters_5 rfl (lv_at hl 1 rfl) ?_
  refine z_calll E B (wc := []) (wr := []) [] [] rfl rfl (by decide) (by decide) (z_runS E B (As := [.long 23, .int 105]) (rest := []) [] rfl (by decide) ms_X12_appends t_1189 (c_X12_appends_11 l G _) rfl rfl ⟨Nat.le_of_ble_eq_true rfl, Nat.le_of_ble_eq_true rfl⟩ rfl hl.1 rfl (Nat.le_of_ble_eq_true rfl) dX12_letters_6 ⟨(Nat.le_of_ble_eq_true rfl), (Nat.le_of_ble_eq_true rfl)⟩) (fun r t H locs hp hB J => ?_)
  have hq := hB
  have B := J _ hq
  have B : zB G A s.heap [] _ _ := B
  have hp := hp.symm
  subst hp
  refine lv_iload_n E.x E.b dX12_letters_9 rfl (lv_at hl 2 rfl) ?_
  refine z_calll E B (wc := []) (wr := []) [] [] rfl rfl (by decide) (by decide) (z_runS E B (As := [.long 630, .int 114]) (rest := []) [] rfl (by decide) ms_X12_appends t_1189 (c_X12_appends_12 l G _) rfl rfl ⟨Nat.le_of_ble_eq_true rfl, Nat.le_of_ble_eq_true rfl⟩ rfl hl.1 rfl (Nat.le_of_ble_eq_true rfl) dX12_letters_10 ⟨(Nat.le_of_ble_eq_true rfl), (Nat.le_of_ble_eq_true rfl)⟩) (fun r t H locs hp hB J => ?_)
  have hq := hB
  have B := J _ hq
  have B : zB G A s.heap [] _ _ := B
  have hp := hp.symm
  subst hp
  refine lv_iload_n E.x E.b dX12_letters_13 rfl (lv_at hl 3 rfl) ?_
  refine z_calll E B (wc := []) (wr := []) [] [] rfl rfl (by decide) (by decide) (z_runS E B (As := [.long 17028, .int 101]) (rest := []) [] rfl (by decide) ms_X12_appends t_1189 (c_X12_appends_13 l G _) rfl rfl ⟨Nat.le_of_ble_eq_true rfl, Nat.le_of_ble_eq_true rfl⟩ rfl hl.1 rfl (Nat.le_of_ble_eq_true rfl) dX12_letters_14 ⟨(Nat.le_of_ble_eq_true rfl), (Nat.le_of_ble_eq_true rfl)⟩) (fun r t H locs hp hB J => ?_)
  have hq := hB
  have B := J _ hq
  have B : zB G A s.heap [] _ _ := B
  have hp := hp.symm
  subst hp
  refine lv_iload E.x E.b dX12_letters_17 (lv_at hl 4 rfl) ?_
  refine z_calll E B (wc := []) (wr := []) [] [] rfl rfl (by decide) (by decide) (z_runS E B (As := [.long 459761, .int 0]) (rest := []) [] rfl (by decide) ms_X12_appends t_1189 (c_X12_appends_14 l G _) rfl rfl ⟨Nat.le_of_ble_eq_true rfl, Nat.le_of_ble_eq_true rfl⟩ rfl hl.1 rfl (Nat.le_of_ble_eq_true rfl) dX12_letters_19 ⟨(Nat.le_of_ble_eq_true rfl), (Nat.le_of_ble_eq_true rfl)⟩) (fun r t H locs hp hB J => ?_)
  have hq := hB
  have B := J _ hq
  have B : zB G A s.heap [] _ _ := B
  have hp := hp.symm
  subst hp
  refine lv_iload E.x E.b dX12_letters_22 (lv_at hl 5 rfl) ?_
  refine z_calll E B (wc := []) (wr := []) [] [] rfl rfl (by decide) (by decide) (z_runS E B (As := [.long 459761, .int 0]) (rest := []) [] rfl (by decide) ms_X12_appends t_1189 (c_X12_appends_14 l G _) rfl rfl ⟨Nat.le_of_ble_eq_true rfl, Nat.le_of_ble_eq_true rfl⟩ rfl hl.1 rfl (Nat.le_of_ble_eq_true rfl) dX12_letters_24 ⟨(Nat.le_of_ble_eq_true rfl), (Nat.le_of_ble_eq_true rfl)⟩) (fun r t H locs hp hB J => ?_)
  have hq := hB
  have B := J _ hq
  have B : zB G A s.heap [] _ _ := B
  have hp := hp.symm
  subst hp
  refine lv_iload E.x E.b dX12_letters_27 (lv_at hl 6 rfl) ?_
  refine z_calll E B (wc := []) (wr := []) [] [] rfl rfl (by decide) (by decide) (z_runS E B (As := [.long 459761, .int 0]) (rest := []) [] rfl (by decide) ms_X12_appends t_1189 (c_X12_appends_14 l G _) rfl rfl ⟨Nat.le_of_ble_eq_true rfl, Nat.le_of_ble_eq_true rfl⟩ rfl hl.1 rfl (Nat.le_of_ble_eq_true rfl) dX12_letters_29 ⟨(Nat.le_of_ble_eq_true rfl), (Nat.le_of_ble_eq_true rfl)⟩) (fun r t H locs hp hB J => ?_)
  have hq := hB
  have B := J _ hq
  have B : zB G A s.heap [] _ _ := B
  have hp := hp.symm
  subst hp
  refine W.widen (k := 0) (n := 0) (Nat.le_of_ble_eq_true rfl) (Nat.le_of_ble_eq_true rfl) ?_
  exact z_lret E hr hlocks B (v := 459761) rfl (fun t ht => z_q B [] (by decide) rfl ht) dX12_letters_32
set_option maxHeartbeats 4000000 in
set_option maxRecDepth 100000 in
theorem c_X12_appends_16 (l : Launch) (G : zGT) (sz : Nat) : Met l yX12_appends (.code yX12_appends cX12_appends 3 (some .long) :: zT) ({ frames := 0, cells := 0, slots := 0, locals := 64 }) (va_Pc [.long 0, .int 103] (zPc G [] sz)) ((fun A => va_Ql (fun (r : Int64) (_ : Unit) => r = 7) (fun (_ : Unit) t => zQ G [] A t) A) (va_A [] sz)) 0 0 (va_A [] sz) := by
  refine z_start (y := yX12_appends) (bytes := cX12_appends) (maxL := 3) (ret := (some .long)) (av := [.long 0, .int 103]) (QA := (fun A => va_Ql (fun (r : Int64) (_ : Unit) => r = 7) (fun (_ : Unit) t => zQ G [] A t) A)) (by decide) ⟨Nat.le_of_ble_eq_true rfl, trivial⟩ ?_
  intro p e s m below meth c A ls E B hr hlocks hin hl
  have hl : lv_has ls 3 [(0, .long 0), (2, .int 103)] := hl
  have B : zB G A s.heap [] s.heap [] := B
  refine lv_iload_n E.x E.b dX12_appends_0 rfl (lv_at hl 1 rfl) ?_
  refine lv_if_ne (tgt := 8) E.x E.b dX12_appends_1 (by decide) (fun _ => ?_) (fun c => absurd c (by decide +kernel))
  refine lv_ldc2 E.x E.b E.ow (E.w t_1192) dX12_appends_8 ?_
  refine lv_lload_n E.x E.b dX12_appends_11 rfl (lv_at hl 0 rfl) ?_
  refine lv_lmul E.x E.b dX12_appends_12 (z_topl 0 (by decide +kernel) ?_)
  refine lv_iload_n E.x E.b dX12_appends_13 rfl (lv_at hl 1 rfl) ?_
  refine lv_bipush (v := 97) E.x E.b dX12_appends_14 (by decide) ?_
  refine lv_isub E.x E.b dX12_appends_16 (z_topi 6 (by decide +kernel) ?_)
  refine lv_iconst (v := 1) E.x E.b dX12_appends_17 (by decide) ?_
  refine lv_iadd E.x E.b dX12_appends_18 (z_topi 7 (by decide +kernel) ?_)
  refine lv_i2l (v := 7) E.x E.b dX12_appends_19 (by decide +kernel) ?_
  refine lv_ladd E.x E.b dX12_appends_20 (z_topl 7 (by decide +kernel) ?_)
  refine W.widen (k := 0) (n := 0) (Nat.le_of_ble_eq_true rfl) (Nat.le_of_ble_eq_true rfl) ?_
  exact z_lret E hr hlocks B (v := 7) rfl (fun t ht => z_q B [] (by decide) rfl ht) dX12_appends_21
set_option maxHeartbeats 4000000 in
set_option maxRecDepth 100000 in
theorem c_X12_appends_17 (l : Launch) (G : zGT) (sz : Nat) : Met l yX12_appends (.code yX12_appends cX12_appends 3 (some .long) :: zT) ({ frames := 0, cells := 0, slots := 0, locals := 64 }) (va_Pc [.long 7, .int 97] (zPc G [] sz)) ((fun A => va_Ql (fun (r : Int64) (_ : Unit) => r = 190) (fun (_ : Unit) t => zQ G [] A t) A) (va_A [] sz)) 0 0 (va_A [] sz) := by
  refine z_start (y := yX12_appends) (bytes := cX12_appends) (maxL := 3) (ret := (some .long)) (av := [.long 7, .int 97]) (QA := (fun A => va_Ql (fun (r : Int64) (_ : Unit) => r = 190) (fun (_ : Unit) t => zQ G [] A t) A)) (by decide) ⟨Nat.le_of_ble_eq_true rfl, trivial⟩ ?_
  intro p e s m below meth c A ls E B hr hlocks hin hl
  have hl : lv_has ls 3 [(0, .long 7), (2, .int 97)] := hl
  have B : zB G A s.heap [] s.heap [] := B
  refine lv_iload_n E.x E.b dX12_appends_0 rfl (lv_at hl 1 rfl) ?_
  refine lv_if_ne (tgt := 8) E.x E.b dX12_appends_1 (by decide) (fun _ => ?_) (fun c => absurd c (by decide +kernel))
  refine lv_ldc2 E.x E.b E.ow (E.w t_1192) dX12_appends_8 ?_
  refine lv_lload_n E.x E.b dX12_appends_11 rfl (lv_at hl 0 rfl) ?_
  refine lv_lmul E.x E.b dX12_appends_12 (z_topl 189 (by decide +kernel) ?_)
  refine lv_iload_n E.x E.b dX12_appends_13 rfl (lv_at hl 1 rfl) ?_
  refine lv_bipush (v := 97) E.x E.b dX12_appends_14 (by decide) ?_
  refine lv_isub E.x E.b dX12_appends_16 (z_topi 0 (by decide +kernel) ?_)
  refine lv_iconst (v := 1) E.x E.b dX12_appends_17 (by decide) ?_
  refine lv_iadd E.x E.b dX12_appends_18 (z_topi 1 (by decide +kernel) ?_)
  refine lv_i2l (v := 1) E.x E.b dX12_appends_19 (by decide +kernel) ?_
  refine lv_ladd E.x E.b dX12_appends_20 (z_topl 190 (by decide +kernel) ?_)
  refine W.widen (k := 0) (n := 0) (Nat.le_of_ble_eq_true rfl) (Nat.le_of_ble_eq_true rfl) ?_
  exact z_lret E hr hlocks B (v := 190) rfl (fun t ht => z_q B [] (by decide) rfl ht) dX12_appends_21
set_option maxHeartbeats 4000000 in
set_option maxRecDepth 100000 in
theorem c_X12_appends_18 (l : Launch) (G : zGT) (sz : Nat) : Met l yX12_appends (.code yX12_appends cX12_appends 3 (some .long) :: zT) ({ frames := 0, cells := 0, slots := 0, locals := 64 }) (va_Pc [.long 190, .int 116] (zPc G [] sz)) ((fun A => va_Ql (fun (r : Int64) (_ : Unit) => r = 5150) (fun (_ : Unit) t => zQ G [] A t) A) (va_A [] sz)) 0 0 (va_A [] sz) := by
  refine z_start (y := yX12_appends) (bytes := cX12_appends) (maxL := 3) (ret := (some .long)) (av := [.long 190, .int 116]) (QA := (fun A => va_Ql (fun (r : Int64) (_ : Unit) => r = 5150) (fun (_ : Unit) t => zQ G [] A t) A)) (by decide) ⟨Nat.le_of_ble_eq_true rfl, trivial⟩ ?_
  intro p e s m below meth c A ls E B hr hlocks hin hl
  have hl : lv_has ls 3 [(0, .long 190), (2, .int 116)] := hl
  have B : zB G A s.heap [] s.heap [] := B
  refine lv_iload_n E.x E.b dX12_appends_0 rfl (lv_at hl 1 rfl) ?_
  refine lv_if_ne (tgt := 8) E.x E.b dX12_appends_1 (by decide) (fun _ => ?_) (fun c => absurd c (by decide +kernel))
  refine lv_ldc2 E.x E.b E.ow (E.w t_1192) dX12_appends_8 ?_
  refine lv_lload_n E.x E.b dX12_appends_11 rfl (lv_at hl 0 rfl) ?_
  refine lv_lmul E.x E.b dX12_appends_12 (z_topl 5130 (by decide +kernel) ?_)
  refine lv_iload_n E.x E.b dX12_appends_13 rfl (lv_at hl 1 rfl) ?_
  refine lv_bipush (v := 97) E.x E.b dX12_appends_14 (by decide) ?_
  refine lv_isub E.x E.b dX12_appends_16 (z_topi 19 (by decide +kernel) ?_)
  refine lv_iconst (v := 1) E.x E.b dX12_appends_17 (by decide) ?_
  refine lv_iadd E.x E.b dX12_appends_18 (z_topi 20 (by decide +kernel) ?_)
  refine lv_i2l (v := 20) E.x E.b dX12_appends_19 (by decide +kernel) ?_
  refine lv_ladd E.x E.b dX12_appends_20 (z_topl 5150 (by decide +kernel) ?_)
  refine W.widen (k := 0) (n := 0) (Nat.le_of_ble_eq_true rfl) (Nat.le_of_ble_eq_true rfl) ?_
  exact z_lret E hr hlocks B (v := 5150) rfl (fun t ht => z_q B [] (by decide) rfl ht) dX12_appends_21
set_option maxHeartbeats 4000000 in
set_option maxRecDepth 100000 in
theorem c_X12_appends_19 (l : Launch) (G : zGT) (sz : Nat) : Met l yX12_appends (.code yX12_appends cX12_appends 3 (some .long) :: zT) ({ frames := 0, cells := 0, slots := 0, locals := 64 }) (va_Pc [.long 5150, .int 101] (zPc G [] sz)) ((fun A => va_Ql (fun (r : Int64) (_ : Unit) => r = 139055) (fun (_ : Unit) t => zQ G [] A t) A) (va_A [] sz)) 0 0 (va_A [] sz) := by
  refine z_start (y := yX12_appends) (bytes := cX12_appends) (maxL := 3) (ret := (some .long)) (av := [.long 5150, .int 101]) (QA := (fun A => va_Ql (fun (r : Int64) (_ : Unit) => r = 139055) (fun (_ : Unit) t => zQ G [] A t) A)) (by decide) ⟨Nat.le_of_ble_eq_true rfl, trivial⟩ ?_
  intro p e s m below meth c A ls E B hr hlocks hin hl
  have hl : lv_has ls 3 [(0, .long 5150), (2, .int 101)] := hl
  have B : zB G A s.heap [] s.heap [] := B
  refine lv_iload_n E.x E.b dX12_appends_0 rfl (lv_at hl 1 rfl) ?_
  refine lv_if_ne (tgt := 8) E.x E.b dX12_appends_1 (by decide) (fun _ => ?_) (fun c => absurd c (by decide +kernel))
  refine lv_ldc2 E.x E.b E.ow (E.w t_1192) dX12_appends_8 ?_
  refine lv_lload_n E.x E.b dX12_appends_11 rfl (lv_at hl 0 rfl) ?_
  refine lv_lmul E.x E.b dX12_appends_12 (z_topl 139050 (by decide +kernel) ?_)
  refine lv_iload_n E.x E.b dX12_appends_13 rfl (lv_at hl 1 rfl) ?_
  refine lv_bipush (v := 97) E.x E.b dX12_appends_14 (by decide) ?_
  refine lv_isub E.x E.b dX12_appends_16 (z_topi 4 (by decide +kernel) ?_)
  refine lv_iconst (v := 1) E.x E.b dX12_appends_17 (by decide) ?_
  refine lv_iadd E.x E.b dX12_appends_18 (z_topi 5 (by decide +kernel) ?_)
  refine lv_i2l (v := 5) E.x E.b dX12_appends_19 (by decide +kernel) ?_
  refine lv_ladd E.x E.b dX12_appends_20 (z_topl 139055 (by decide +kernel) ?_)
  refine W.widen (k := 0) (n := 0) (Nat.le_of_ble_eq_true rfl) (Nat.le_of_ble_eq_true rfl) ?_
  exact z_lret E hr hlocks B (v := 139055) rfl (fun t ht => z_q B [] (by decide) rfl ht) dX12_appends_21
set_option maxHeartbeats 4000000 in
set_option maxRecDepth 100000 in
theorem c_X12_appends_20 (l : Launch) (G : zGT) (sz : Nat) : Met l yX12_appends (.code yX12_appends cX12_appends 3 (some .long) :: zT) ({ frames := 0, cells := 0, slots := 0, locals := 64 }) (va_Pc [.long 139055, .int 0] (zPc G [] sz)) ((fun A => va_Ql (fun (r : Int64) (_ : Unit) => r = 139055) (fun (_ : Unit) t => zQ G [] A t) A) (va_A [] sz)) 0 0 (va_A [] sz) := by
  refine z_start (y := yX12_appends) (bytes := cX12_appends) (maxL := 3) (ret := (some .long)) (av := [.long 139055, .int 0]) (QA := (fun A => va_Ql (fun (r : Int64) (_ : Unit) => r = 139055) (fun (_ : Unit) t => zQ G [] A t) A)) (by decide) ⟨Nat.le_of_ble_eq_true rfl, trivial⟩ ?_
  intro p e s m below meth c A ls E B hr hlocks hin hl
  have hl : lv_has ls 3 [(0, .long 139055), (2, .int 0)] := hl
  have B : zB G A s.heap [] s.heap [] := B
  refine lv_iload_n E.x E.b dX12_appends_0 rfl (lv_at hl 1 rfl) ?_
  refine lv_if_ne (tgt := 8) E.x E.b dX12_appends_1 (by decide) (fun c => absurd (by decide +kernel) c) (fun _ => ?_)
  refine lv_lload_n E.x E.b dX12_appends_4 rfl (lv_at hl 0 rfl) ?_
  refine lv_goto (tgt := 21) E.x E.b dX12_appends_5 (by decide) ?_
  refine W.widen (k := 0) (n := 0) (Nat.le_of_ble_eq_true rfl) (Nat.le_of_ble_eq_true rfl) ?_
  exact z_lret E hr hlocks B (v := 139055) rfl (fun t ht => z_q B [] (by decide) rfl ht) dX12_appends_21
set_option maxHeartbeats 4000000 in
set_option maxRecDepth 100000 in
theorem c_X12_letters_21 (l : Launch) (G : zGT) (sz : Nat) : Met l yX12_letters (.code yX12_letters cX12_letters 7 (some .long) :: zT) ({ frames := 1, cells := 0, slots := 0, locals := 86 }) (va_Pc [.int 103, .int 97, .int 116, .int 101, .int 0, .int 0, .int 0] (zPc G [] sz)) ((fun A => va_Ql (fun (r : Int64) (_ : Unit) => r = 139055) (fun (_ : Unit) t => zQ G [] A t) A) (va_A [] sz)) 0 0 (va_A [] sz) := by
  refine z_start (y := yX12_letters) (bytes := cX12_letters) (maxL := 7) (ret := (some .long)) (av := [.int 103, .int 97, .int 116, .int 101, .int 0, .int 0, .int 0]) (QA := (fun A => va_Ql (fun (r : Int64) (_ : Unit) => r = 139055) (fun (_ : Unit) t => zQ G [] A t) A)) (by decide) ⟨Nat.le_of_ble_eq_true rfl, trivial⟩ ?_
  intro p e s m below meth c A ls E B hr hlocks hin hl
  have hl : lv_has ls 7 [(0, .int 103), (1, .int 97), (2, .int 116), (3, .int 101), (4, .int 0), (5, .int 0), (6, .int 0)] := hl
  have B : zB G A s.heap [] s.heap [] := B
  refine lv_lconst (v := 0) E.x E.b dX12_letters_0 (by decide) ?_
  refine lv_iload_n E.x E.b dX12_letters_1 rfl (lv_at hl 0 rfl) ?_
  refine z_calll E B (wc := []) (wr := []) [] [] rfl rfl (by decide) (by decide) (z_runS E B (As := [.long 0, .int 103]) (rest := []) [] rfl (by decide) ms_X12_appends t_1189 (c_X12_appends_16 l G _) rfl rfl ⟨Nat.le_of_ble_eq_true rfl, Nat.le_of_ble_eq_true rfl⟩ rfl hl.1 rfl (Nat.le_of_ble_eq_true rfl) dX12_letters_2 ⟨(Nat.le_of_ble_eq_true rfl), (Nat.le_of_ble_eq_true rfl)⟩) (fun r t H locs hp hB J => ?_)
  have hq := hB
  have B := J _ hq
  have B : zB G A s.heap [] _ _ := B
  have hp := hp.symm
  subst hp
  refine lv_iload_n E.x E.b dX12_letters_5 rfl (lv_at hl 1 rfl) ?_
  refine z_calll E B (wc := []) (wr := []) [] [] rfl rfl (by decide) (by decide) (z_runS E B (As := [.long 7, .int 97]) (rest := []) [] rfl (by decide) ms_X12_appends t_1189 (c_X12_appends_17 l G _) rfl rfl ⟨Nat.le_of_ble_eq_true rfl, Nat.le_of_ble_eq_true rfl⟩ rfl hl.1 rfl (Nat.le_of_ble_eq_true rfl) dX12_letters_6 ⟨(Nat.le_of_ble_eq_true rfl), (Nat.le_of_ble_eq_true rfl)⟩) (fun r t H locs hp hB J => ?_)
  have hq := hB
  have B := J _ hq
  have B : zB G A s.heap [] _ _ := B
  have hp := hp.symm
  subst hp
  refine lv_iload_n E.x E.b dX12_letters_9 rfl (lv_at hl 2 rfl) ?_
  refine z_calll E B (wc := []) (wr := []) [] [] rfl rfl (by decide) (by decide) (z_runS E B (As := [.long 190, .int 116]) (rest := []) [] rfl (by decide) ms_X12_appends t_1189 (c_X12_appends_18 l G _) rfl rfl ⟨Nat.le_of_ble_eq_true rfl, Nat.le_of_ble_eq_true rfl⟩ rfl hl.1 rfl (Nat.le_of_ble_eq_true rfl) dX12_letters_10 ⟨(Nat.le_of_ble_eq_true rfl), (Nat.le_of_ble_eq_true rfl)⟩) (fun r t H locs hp hB J => ?_)
  have hq := hB
  have B := J _ hq
  have B : zB G A s.heap [] _ _ := B
  have hp := hp.symm
  subst hp
  refine lv_iload_n E.x E.b dX12_letters_13 rfl (lv_at hl 3 rfl) ?_
  refine z_calll E B (wc := []) (wr := []) [] [] rfl rfl (by decide) (by decide) (z_runS E B (As := [.long 5150, .int 101]) (rest := []) [] rfl (by decide) ms_X12_appends t_1189 (c_X12_appends_19 l G _) rfl rfl ⟨Nat.le_of_ble_eq_true rfl, Nat.le_of_ble_eq_true rfl⟩ rfl hl.1 rfl (Nat.le_of_ble_eq_true rfl) dX12_letters_14 ⟨(Nat.le_of_ble_eq_true rfl), (Nat.le_of_ble_eq_true rfl)⟩) (fun r t H locs hp hB J => ?_)
  have hq := hB
  have B := J _ hq
  have B : zB G A s.heap [] _ _ := B
  have hp := hp.symm
  subst hp
  refine lv_iload E.x E.b dX12_letters_17 (lv_at hl 4 rfl) ?_
  refine z_calll E B (wc := []) (wr := []) [] [] rfl rfl (by decide) (by decide) (z_runS E B (As := [.long 139055, .int 0]) (rest := []) [] rfl (by decide) ms_X12_appends t_1189 (c_X12_appends_20 l G _) rfl rfl ⟨Nat.le_of_ble_eq_true rfl, Nat.le_of_ble_eq_true rfl⟩ rfl hl.1 rfl (Nat.le_of_ble_eq_true rfl) dX12_letters_19 ⟨(Nat.le_of_ble_eq_true rfl), (Nat.le_of_ble_eq_true rfl)⟩) (fun r t H locs hp hB J => ?_)
  have hq := hB
  have B := J _ hq
  have B : zB G A s.heap [] _ _ := B
  have hp := hp.symm
  subst hp
  refine lv_iload E.x E.b dX12_letters_22 (lv_at hl 5 rfl) ?_
  refine z_calll E B (wc := []) (wr := []) [] [] rfl rfl (by decide) (by decide) (z_runS E B (As := [.long 139055, .int 0]) (rest := []) [] rfl (by decide) ms_X12_appends t_1189 (c_X12_appends_20 l G _) rfl rfl ⟨Nat.le_of_ble_eq_true rfl, Nat.le_of_ble_eq_true rfl⟩ rfl hl.1 rfl (Nat.le_of_ble_eq_true rfl) dX12_letters_24 ⟨(Nat.le_of_ble_eq_true rfl), (Nat.le_of_ble_eq_true rfl)⟩) (fun r t H locs hp hB J => ?_)
  have hq := hB
  have B := J _ hq
  have B : zB G A s.heap [] _ _ := B
  have hp := hp.symm
  subst hp
  refine lv_iload E.x E.b dX12_letters_27 (lv_at hl 6 rfl) ?_
  refine z_calll E B (wc := []) (wr := []) [] [] rfl rfl (by decide) (by decide) (z_runS E B (As := [.long 139055, .int 0]) (rest := []) [] rfl (by decide) ms_X12_appends t_1189 (c_X12_appends_20 l G _) rfl rfl ⟨Nat.le_of_ble_eq_true rfl, Nat.le_of_ble_eq_true rfl⟩ rfl hl.1 rfl (Nat.le_of_ble_eq_true rfl) dX12_letters_29 ⟨(Nat.le_of_ble_eq_true rfl), (Nat.le_of_ble_eq_true rfl)⟩) (fun r t H locs hp hB J => ?_)
  have hq := hB
  have B := J _ hq
  have B : zB G A s.heap [] _ _ := B
  have hp := hp.symm
  subst hp
  refine W.widen (k := 0) (n := 0) (Nat.le_of_ble_eq_true rfl) (Nat.le_of_ble_eq_true rfl) ?_
  exact z_lret E hr hlocks B (v := 139055) rfl (fun t ht => z_q B [] (by decide) rfl ht) dX12_letters_32
