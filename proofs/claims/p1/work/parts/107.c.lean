set_option maxHeartbeats 4000000 in
set_option maxRecDepth 100000 in
theorem c_X11_leastCascade_95 (l : Launch) (G : zGT) (sz : Nat) (a0 a1 a2 a3 a4 a5 a6 a7 a8 a9 a10 a11 a12 a13 a14 a15 a16 a17 : Nat) : Met l yX11_leastCascade (.code yX11_leastCascade cX11_leastCascade 1 (some (.object "BackLogic$Cascade")) :: zT) ({ frames := 6, cells := 8, slots := 11848, locals := 202 }) (va_Pc [.ref a0] (zPc G [zo a0 9 [.ref a4, .ref a5, .ref a6, .ref a2, .ref a7, .ref a8, .ref a9, .ref a10, .ref a1, .ref a11, .ref a12, .ref a13, .ref a14, .null, .int 0, .int (-1)], zo a1 1 [.ref a3, .ref a15, .ref a16], zo a2 0 [.ref a17, .int 0], zi G a3 64 (fun _ => 0)] sz)) ((fun A => va_Qr (fun (_ : Unit) => True) (fun (_ : Unit) r t => ∃ (q_1 : Nat) (q_2 : Nat) (q_3 : Nat) (q_4 : Nat) (q_5 : Nat) (q_6 : Nat) (q_7 : Nat) (q_8 : Nat), r = q_6 ∧ zQ G [zo a0 9 [.ref a4, .ref a5, .ref a6, .ref a2, .ref a7, .ref a8, .ref a9, .ref a10, .ref a1, .ref a11, .ref a12, .ref a13, .ref a14, .ref q_1, .int 0, .int (-1)], zo a1 1 [.ref a3, .ref a15, .ref a16], zo a2 0 [.ref a17, .int 0], zi G a3 64 (fun _ => 0), zi G q_2 8 (fun _ => 0), zi G q_3 12 (fun _ => 0), zi G q_4 12 (fun _ => 0), zi G q_5 12 (fun _ => 0), zo q_1 5 [.ref q_6, .ref q_7, .ref q_8, .ref q_3, .ref q_4, .ref q_5, .int 1, .int 0, .int 0, .int 0], zi G q_7 8192 (upd (fun _ => 0) 0 16777216), zi G q_8 3600 (fun _ => 0), zo q_6 0 [.ref q_2, .int 0]] A t) A) (va_A [zo a0 9 [.ref a4, .ref a5, .ref a6, .ref a2, .ref a7, .ref a8, .ref a9, .ref a10, .ref a1, .ref a11, .ref a12, .ref a13, .ref a14, .null, .int 0, .int (-1)], zo a1 1 [.ref a3, .ref a15, .ref a16], zo a2 0 [.ref a17, .int 0], zi G a3 64 (fun _ => 0)] sz)) 8 11848 (va_A [zo a0 9 [.ref a4, .ref a5, .ref a6, .ref a2, .ref a7, .ref a8, .ref a9, .ref a10, .ref a1, .ref a11, .ref a12, .ref a13, .ref a14, .null, .int 0, .int (-1)], zo a1 1 [.ref a3, .ref a15, .ref a16], zo a2 0 [.ref a17, .int 0], zi G a3 64 (fun _ => 0)] sz) := by
  refine z_start (y := yX11_leastCascade) (bytes := cX11_leastCascade) (maxL := 1) (ret := (some (.object "BackLogic$Cascade"))) (av := [.ref a0]) (QA := (fun A => va_Qr (fun (_ : Unit) => True) (fun (_ : Unit) r t => ∃ (q_1 : Nat) (q_2 : Nat) (q_3 : Nat) (q_4 : Nat) (q_5 : Nat) (q_6 : Nat) (q_7 : Nat) (q_8 : Nat), r = q_6 ∧ zQ G [zo a0 9 [.ref a4, .ref a5, .ref a6, .ref a2, .ref a7, .ref a8, .ref a9, .ref a10, .ref a1, .ref a11, .ref a12, .ref a13, .ref a14, .ref q_1, .int 0, .int (-1)], zo a1 1 [.ref a3, .ref a15, .ref a16], zo a2 0 [.ref a17, .int 0], zi G a3 64 (fun _ => 0), zi G q_2 8 (fun _ => 0), zi G q_3 12 (fun _ => 0), zi G q_4 12 (fun _ => 0), zi G q_5 12 (fun _ => 0), zo q_1 5 [.ref q_6, .ref q_7, .ref q_8, .ref q_3, .ref q_4, .ref q_5, .int 1, .int 0, .int 0, .int 0], zi G q_7 8192 (upd (fun _ => 0) 0 16777216), zi G q_8 3600 (fun _ => 0), zo q_6 0 [.ref q_2, .int 0]] A t) A)) (by decide) ⟨Nat.le_of_ble_eq_true rfl, trivial⟩ ?_
  intro p e s m below meth c A ls E B hr hlocks hin hl
  have hl : lv_has ls 1 [(0, .ref a0)] := hl
  have B : zB G A s.heap [zo a0 9 [.ref a4, .ref a5, .ref a6, .ref a2, .ref a7, .ref a8, .ref a9, .ref a10, .ref a1, .ref a11, .ref a12, .ref a13, .ref a14, .null, .int 0, .int (-1)], zo a1 1 [.ref a3, .ref a15, .ref a16], zo a2 0 [.ref a17, .int 0], zi G a3 64 (fun _ => 0)] s.heap [] := B
  refine lv_aload_n E.x E.b dX11_leastCascade_0 rfl (lv_at hl 0 rfl) ?_
  refine z_get E B z_inX11 (ci := 9) rfl 14 (by decide) t_383 0 rfl rfl dX11_leastCascade_1 ?_
  refine lv_iconst (v := 3) E.x E.b dX11_leastCascade_4 (by decide) ?_
  refine lv_icmp_le (tgt := 10) E.x E.b dX11_leastCascade_5 (by decide) (fun _ => ?_) (fun c => absurd (by decide +kernel) c)
  refine lv_aload_n E.x E.b dX11_leastCascade_10 rfl (lv_at hl 0 rfl) ?_
  refine z_get E B z_inX11 (ci := 9) rfl 3 (by decide) t_372 0 rfl rfl dX11_leastCascade_11 ?_
  refine lv_aload_n E.x E.b dX11_leastCascade_14 rfl (lv_at hl 0 rfl) ?_
  refine z_calli E B (wc := [zo a0 9 [.ref a4, .ref a5, .ref a6, .ref a2, .ref a7, .ref a8, .ref a9, .ref a10, .ref a1, .ref a11, .ref a12, .ref a13, .ref a14, .null, .int 0, .int (-1)]]) (wr := [zo a1 1 [.ref a3, .ref a15, .ref a16], zo a2 0 [.ref a17, .int 0], zi G a3 64 (fun _ => 0)]) [0] [1, 2, 3] rfl rfl (by decide) (by decide) (z_runV E B (As := []) (rest := [.ref a2]) [0] rfl (by decide) mv_X11_rows t_687 0 (ci := 9) rfl rfl rfl (c_X11_rows_65 l G _ a0 a4 a5 a6 a2 a7 a8 a9 a10 a1 a11 a12 a13 a14) rfl rfl ⟨Nat.le_of_ble_eq_true rfl, Nat.le_of_ble_eq_true rfl⟩ rfl hl.1 rfl (Nat.le_of_ble_eq_true rfl) dX11_leastCascade_15 ⟨(Nat.le_of_ble_eq_true rfl), (Nat.le_of_ble_eq_true rfl)⟩) (fun r t H locs hp hB J => ?_)
  have hq := hB
  have B := J _ hq
  have B : zB G A s.heap [zo a1 1 [.ref a3, .ref a15, .ref a16], zo a2 0 [.ref a17, .int 0], zi G a3 64 (fun _ => 0), zo a0 9 [.ref a4, .ref a5, .ref a6, .ref a2, .ref a7, .ref a8, .ref a9, .ref a10, .ref a1, .ref a11, .ref a12, .ref a13, .ref a14, .null, .int 0, .int (-1)]] _ _ := B
  have hp := hp.symm
  subst hp
  refine lv_aload_n E.x E.b dX11_leastCascade_18 rfl (lv_at hl 0 rfl) ?_
  refine z_get E B z_inX11 (ci := 9) rfl 8 (by decide) t_377 3 rfl rfl dX11_leastCascade_19 ?_
  refine z_get E B z_inX1 (ci := 1) rfl 0 (by decide) t_290 0 rfl rfl dX11_leastCascade_22 ?_
  refine z_callv E B (wc := [zo a2 0 [.ref a17, .int 0], zi G a3 64 (fun _ => 0)]) (wr := [zo a1 1 [.ref a3, .ref a15, .ref a16], zo a0 9 [.ref a4, .ref a5, .ref a6, .ref a2, .ref a7, .ref a8, .ref a9, .ref a10, .ref a1, .ref a11, .ref a12, .ref a13, .ref a14, .null, .int 0, .int (-1)]]) [1, 2] [0, 3] rfl rfl (by decide) (by decide) (z_runV E B (As := [.int 1, .ref a3]) (rest := []) [1, 2] rfl (by decide) mv_X0_makeOrder t_794 0 (ci := 0) rfl rfl rfl (c_X0_makeOrder_70 l G _ a2 a3 a17) rfl rfl ⟨Nat.le_of_ble_eq_true rfl, Nat.le_of_ble_eq_true rfl⟩ rfl hl.1 rfl (Nat.le_of_ble_eq_true rfl) dX11_leastCascade_25 ⟨(Nat.le_of_ble_eq_true rfl), (Nat.le_of_ble_eq_true rfl)⟩) (fun  t H locs hp hB J => ?_)
  have hq := hB
  have B := J _ hq
  have B : zB G A s.heap [zo a1 1 [.ref a3, .ref a15, .ref a16], zo a0 9 [.ref a4, .ref a5, .ref a6, .ref a2, .ref a7, .ref a8, .ref a9, .ref a10, .ref a1, .ref a11, .ref a12, .ref a13, .ref a14, .null, .int 0, .int (-1)], zo a2 0 [.ref a17, .int 0], zi G a3 64 (fun _ => 0)] _ _ := B
  refine lv_aload_n E.x E.b dX11_leastCascade_28 rfl (lv_at hl 0 rfl) ?_
  refine z_callr E B (wc := [zo a0 9 [.ref a4, .ref a5, .ref a6, .ref a2, .ref a7, .ref a8, .ref a9, .ref a10, .ref a1, .ref a11, .ref a12, .ref a13, .ref a14, .null, .int 0, .int (-1)], zo a1 1 [.ref a3, .ref a15, .ref a16], zi G a3 64 (fun _ => 0)]) (wr := [zo a2 0 [.ref a17, .int 0]]) [1, 0, 3] [2] rfl rfl (by decide) (by decide) (z_runV E B (As := []) (rest := []) [1, 0, 3] rfl (by decide) mv_X11_leastForImages t_844 0 (ci := 9) rfl rfl rfl (c_X11_leastForImages_94 l G _ a0 a1 a3 a4 a5 a6 a2 a7 a8 a9 a10 a11 a12 a13 a14 a15 a16) rfl rfl ⟨Nat.le_of_ble_eq_true rfl, Nat.le_of_ble_eq_true rfl⟩ rfl hl.1 rfl (Nat.le_of_ble_eq_true rfl) dX11_leastCascade_29 ⟨(Nat.le_of_ble_eq_true rfl), (Nat.le_of_ble_eq_true rfl)⟩) (fun r t H locs hp hB J => ?_)
  obtain ⟨q_1, q_2, q_3, q_4, q_5, q_6, q_7, q_8, hr2, hq⟩ := hB
  have B := J _ hq
  have hr3 := hr2.symm
  subst hr3
  have B : zB G A s.heap [zo a2 0 [.ref a17, .int 0], zo a0 9 [.ref a4, .ref a5, .ref a6, .ref a2, .ref a7, .ref a8, .ref a9, .ref a10, .ref a1, .ref a11, .ref a12, .ref a13, .ref a14, .ref q_1, .int 0, .int (-1)], zo a1 1 [.ref a3, .ref a15, .ref a16], zi G a3 64 (fun _ => 0), zi G q_2 8 (fun _ => 0), zi G q_3 12 (fun _ => 0), zi G q_4 12 (fun _ => 0), zi G q_5 12 (fun _ => 0), zo q_1 5 [.ref q_6, .ref q_7, .ref q_8, .ref q_3, .ref q_4, .ref q_5, .int 1, .int 0, .int 0, .int 0], zi G q_7 8192 (upd (fun _ => 0) 0 16777216), zi G q_8 3600 (fun _ => 0), zo q_6 0 [.ref q_2, .int 0]] _ _ := B
  refine W.widen (k := 8) (n := 11848) (Nat.le_of_ble_eq_true rfl) (Nat.le_of_ble_eq_true rfl) ?_
  exact z_aret E hr (Or.inl ⟨_, rfl⟩) hlocks B trivial (fun t ht => ⟨q_1, q_2, q_3, q_4, q_5, q_6, q_7, q_8, rfl, z_q B [1, 2, 0, 3, 4, 5, 6, 7, 8, 9, 10, 11] (by decide) rfl ht⟩) dX11_leastCascade_32
set_option maxHeartbeats 4000000 in
set_option maxRecDepth 100000 in
theorem c_X0_copy_96 (l : Launch) (G : zGT) (sz : Nat) (a0 a1 a2 a3 : Nat) : Met l yX0_copy (.code yX0_copy cX0_copy 2 none :: zT) ({ frames := 1, cells := 0, slots := 0, locals := 64 }) (va_Pc [.ref a0, .ref a1] (zPc G [zo a0 0 [.ref a2, .int 0], zo a1 0 [.ref a3, .int 0], zi G a2 16 (fun _ => 0), zi G a3 8 (fun _ => 0)] sz)) ((fun A => va_Qv (fun (_ : Unit) => True) (fun (_ : Unit) t => zQ G [zo a0 0 [.ref a2, .int 0], zo a1 0 [.ref a3, .int 0], zi G a2 16 (fun _ => 0), zi G a3 8 (fun _ => 0)] A t) A) (va_A [zo a0 0 [.ref a2, .int 0], zo a1 0 [.ref a3, .int 0], zi G a2 16 (fun _ => 0), zi G a3 8 (fun _ => 0)] sz)) 0 0 (va_A [zo a0 0 [.ref a2, .int 0], zo a1 0 [.ref a3, .int 0], zi G a2 16 (fun _ => 0), zi G a3 8 (fun _ => 0)] sz) := by
  refine z_start (y := yX0_copy) (bytes := cX0_copy) (maxL := 2) (ret := none) (av := [.ref a0, .ref a1]) (QA := (fun A => va_Qv (fun (_ : Unit) => True) (fun (_ : Unit) t => zQ G [zo a0 0 [.ref a2, .int 0], zo a1 0 [.ref a3, .int 0], zi G a2 16 (fun _ => 0), zi G a3 8 (fun _ => 0)] A t) A)) (by decide) ⟨Nat.le_of_ble_eq_true rfl, trivial⟩ ?_
  intro p e s m below meth c A ls E B hr hlocks hin hl
  have hl : lv_has ls 2 [(0, .ref a0), (1, .ref a1)] := hl
  have B : zB G A s.heap [zo a0 0 [.ref a2, .int 0], zo a1 0 [.ref a3, .int 0], zi G a2 16 (fun _ => 0), zi G a3 8 (fun _ => 0)] s.heap [] := B
  refine lv_aload_n E.x E.b dX0_copy_0 rfl (lv_at hl 0 rfl) ?_
  refine lv_aload_n E.x E.b dX0_copy_1 rfl (lv_at hl 1 rfl) ?_
  refine z_get E B z_inX0 (ci := 0) rfl 1 (by decide) t_250 1 rfl rfl dX0_copy_2 ?_
  refine lv_aload_n E.x E.b dX0_copy_5 rfl (lv_at hl 0 rfl) ?_
  refine z_get E B z_inX0 (ci := 0) rfl 0 (by decide) t_248 0 rfl rfl dX0_copy_6 ?_
  refine z_ilen E B 2 rfl (v := 16) (by decide +kernel) dX0_copy_9 ?_
  refine va_mmin E.x E.b (E.1.2.2.1.trans hl.1.symm) E.ow (E.w t_mlX0_33) (E.w t_mmin1) (E.w t_127) (E.w t_mmin2) (Nat.le_of_ble_eq_true rfl) (Nat.le_of_ble_eq_true rfl) (Nat.le_of_ble_eq_true rfl) (Nat.le_of_ble_eq_true rfl) dX0_copy_10 (z_topi 0 (by decide +kernel) ?_)
  refine z_put E B z_inX0 tyX0 tyX0_ok nmX0 (ci := 0) rfl 1 (by decide) rfl (ty := .int) (by decide +kernel) t_250 0 rfl (Nat.le_of_ble_eq_true rfl) rfl rfl dX0_copy_13 (fun H locs B => ?_)
  have B : zB G A s.heap [zo a0 0 [.ref a2, .int 0], zo a1 0 [.ref a3, .int 0], zi G a2 16 (fun _ => 0), zi G a3 8 (fun _ => 0)] _ _ := B
  refine lv_aload_n E.x E.b dX0_copy_16 rfl (lv_at hl 1 rfl) ?_
  refine z_get E B z_inX0 (ci := 0) rfl 0 (by decide) t_248 1 rfl rfl dX0_copy_17 ?_
  refine lv_iconst (v := 0) E.x E.b dX0_copy_20 (by decide) ?_
  refine lv_aload_n E.x E.b dX0_copy_21 rfl (lv_at hl 0 rfl) ?_
  refine z_get E B z_inX0 (ci := 0) rfl 0 (by decide) t_248 0 rfl rfl dX0_copy_22 ?_
  refine lv_iconst (v := 0) E.x E.b dX0_copy_25 (by decide) ?_
  refine lv_aload_n E.x E.b dX0_copy_26 rfl (lv_at hl 0 rfl) ?_
  refine z_get E B z_inX0 (ci := 0) rfl 1 (by decide) t_250 0 rfl rfl dX0_copy_27 ?_
  refine z_copy0 E B (lv_sub hl [] rfl) 3 2 rfl rfl t_arrcopy_X0_36 t_acn t_acs t_aci (Nat.le_of_ble_eq_true rfl) (Nat.le_of_ble_eq_true rfl) dX0_copy_30 (fun H locs B => ?_)
  have B : zB G A s.heap [zo a0 0 [.ref a2, .int 0], zo a1 0 [.ref a3, .int 0], zi G a2 16 (fun _ => 0), zi G a3 8 (fun _ => 0)] _ _ := B
  refine W.widen (k := 0) (n := 0) (Nat.le_of_ble_eq_true rfl) (Nat.le_of_ble_eq_true rfl) ?_
  exact z_vret E hr hlocks B trivial (fun t ht => z_q B [0, 1, 2, 3] (by decide) rfl ht) dX0_copy_33
set_option maxHeartbeats 4000000 in
set_option maxRecDepth 100000 in
theorem c_X11_become_97 (l : Launch) (G : zGT) (sz : Nat) (a0 a1 a2 a3 a4 a5 a6 a7 a8 a9 a10 a11 a12 a13 a14 a15 a16 a17 a18 a19 a20 a21 a22 a23 : Nat) (p0 : Int32) (f0 : Nat → Option Nat) (hf0_0 : f0 0 = some a7) : Met l yX11_become (.code yX11_become cX11_become 3 (some .int) :: zT) ({ frames := 7, cells := 8, slots := 11848, locals := 222 }) (va_Pc [.ref a0, .int p0] (zPc G [zo a0 9 [.ref a14, .ref a15, .ref a16, .ref a2, .ref a1, .ref a17, .ref a18, .ref a5, .ref a9, .ref a19, .ref a20, .ref a21, .ref a22, .null, .int 0, .int (-1)], zo a1 0 [.ref a3, .int 0], zo a2 0 [.ref a4, .int 0], zi G a3 16 (fun _ => 0), zi G a4 16 (fun _ => 0), zo a5 3 [.ref a6, .int 0, .int 0], zc G a6 40 f0, zo a7 0 [.ref a8, .int 0], zi G a8 16 (fun _ => 0), zo a9 1 [.ref a10, .ref a11, .ref a12], zi G a10 64 (fun _ => 0), zo a11 0 [.ref a13, .int 0], zo a12 0 [.ref a23, .int 0], zi G a13 384 (fun _ => 0)] sz)) ((fun A => va_Qi (fun (r : Int32) (_ : Unit) => (p0.toInt = 0 ∧ r = 0) ∨ (p0.toInt = 1 ∧ r = 0) ∨ (p0.toInt = 2 ∧ r = 0) ∨ (p0.toInt = 3 ∧ r = 0) ∨ (p0.toInt = 4 ∧ r = 0) ∨ (¬ p0.toInt = 0 ∧ ¬ p0.toInt = 1 ∧ ¬ p0.toInt = 2 ∧ ¬ p0.toInt = 3 ∧ ¬ p0.toInt = 4 ∧ r = (-1))) (fun (_ : Unit) t => zQ G [] A t) A) (va_A [zo a0 9 [.ref a14, .ref a15, .ref a16, .ref a2, .ref a1, .ref a17, .ref a18, .ref a5, .ref a9, .ref a19, .ref a20, .ref a21, .ref a22, .null, .int 0, .int (-1)], zo a1 0 [.ref a3, .int 0], zo a2 0 [.ref a4, .int 0], zi G a3 16 (fun _ => 0), zi G a4 16 (fun _ => 0), zo a5 3 [.ref a6, .int 0, .int 0], zc G a6 40 f0, zo a7 0 [.ref a8, .int 0], zi G a8 16 (fun _ => 0), zo a9 1 [.ref a10, .ref a11, .ref a12], zi G a10 64 (fun _ => 0), zo a11 0 [.ref a13, .int 0], zo a12 0 [.ref a23, .int 0], zi G a13 384 (fun _ => 0)] sz)) 8 11848 (va_A [zo a0 9 [.ref a14, .ref a15, .ref a16, .ref a2, .ref a1, .ref a17, .ref a18, .ref a5, .ref a9, .ref a19, .ref a20, .ref a21, .ref a22, .null, .int 0, .int (-1)], zo a1 0 [.ref a3, .int 0], zo a2 0 [.ref a4, .int 0], zi G a3 16 (fun _ => 0), zi G a4 16 (fun _ => 0), zo a5 3 [.ref a6, .int 0, .int 0], zc G a6 40 f0, zo a7 0 [.ref a8, .int 0], zi G a8 16 (fun _ => 0), zo a9 1 [.ref a10, .ref a11, .ref a12], zi G a10 64 (fun _ => 0), zo a11 0 [.ref a13, .int 0], zo a12 0 [.ref a23, .int 0], zi G a13 384 (fun _ => 0)] sz) := by
  refine z_start (y := yX11_become) (bytes := cX11_become) (maxL := 3) (ret := (some .int)) (av := [.ref a0, .int p0]) (QA := (fun A => va_Qi (fun (r : Int32) (_ : Unit) => (p0.toInt = 0 ∧ r = 0) ∨ (p0.toInt = 1 ∧ r = 0) ∨ (p0.toInt = 2 ∧ r = 0) ∨ (p0.toInt = 3 ∧ r = 0) ∨ (p0.toInt = 4 ∧ r = 0) ∨ (¬ p0.toInt = 0 ∧ ¬ p0.toInt = 1 ∧ ¬ p0.toInt = 2 ∧ ¬ p0.toInt = 3 ∧ ¬ p0.toInt = 4 ∧ r = (-1))) (fun (_ : Unit) t => zQ G [] A t) A)) (by decide) ⟨Nat.le_of_ble_eq_true rfl, trivial⟩ ?_
  intro p e s m below meth c A ls E B hr hlocks hin hl
  have hl : lv_has ls 3 [(0, .ref a0), (1, .int p0)] := hl
  have B : zB G A s.heap [zo a0 9 [.ref a14, .ref a15, .ref a16, .ref a2, .ref a1, .ref a17, .ref a18, .ref a5, .ref a9, .ref a19, .ref a20, .ref a21, .ref a22, .null, .int 0, .int (-1)], zo a1 0 [.ref a3, .int 0], zo a2 0 [.ref a4, .int 0], zi G a3 16 (fun _ => 0), zi G a4 16 (fun _ => 0), zo a5 3 [.ref a6, .int 0, .int 0], zc G a6 40 f0, zo a7 0 [.ref a8, .int 0], zi G a8 16 (fun _ => 0), zo a9 1 [.ref a10, .ref a11, .ref a12], zi G a10 64 (fun _ => 0), zo a11 0 [.ref a13, .int 0], zo a12 0 [.ref a23, .int 0], zi G a13 384 (fun _ => 0)] s.heap [] := B
  refine lv_null E.x E.b dX11_become_0 ?_
  refine lv_astore_nN (lv' := [(2, .null), (0, .ref a0), (1, .int p0)]) E.x E.b dX11_become_1 rfl hl (by decide) rfl (fun ls hl => ?_)
  refine lv_iload_n E.x E.b dX11_become_2 rfl (lv_at hl 2 rfl) ?_
  by_cases e_1 : p0 = 0
  · subst e_1
    refine lv_tableIn (off := 33) (tgt := 36) E.x E.b dX11_become_3 (by decide) (by decide) (by decide +kernel) (by decide) ?_
    refine lv_aload_n E.x E.b dX11_become_36 rfl (lv_at hl 1 rfl) ?_
    refine z_callr E B (wc := [zo a0 9 [.ref a14, .ref a15, .ref a16, .ref a2, .ref a1, .ref a17, .ref a18, .ref a5, .ref a9, .ref a19, .ref a20, .ref a21, .ref a22, .null, .int 0, .int (-1)], zo a1 0 [.ref a3, .int 0], zo a2 0 [.ref a4, .int 0], zi G a3 16 (fun _ => 0), zi G a4 16 (fun _ => 0)]) (wr := [zo a5 3 [.ref a6, .int 0, .int 0], zc G a6 40 f0, zo a7 0 [.ref a8, .int 0], zi G a8 16 (fun _ => 0), zo a9 1 [.ref a10, .ref a11, .ref a12], zi G a10 64 (fun _ => 0), zo a11 0 [.ref a13, .int 0], zo a12 0 [.ref a23, .int 0], zi G a13 384 (fun _ => 0)]) [0, 1, 2, 3, 4] [5, 6, 7, 8, 9, 10, 11, 12, 13] rfl rfl (by decide) (by decide) (z_runV E B (As := []) (rest := []) [0, 1, 2, 3, 4] rfl (by decide) mv_X11_shrunkCascade t_730 0 (ci := 9) rfl rfl rfl (c_X11_shrunkCascade_67 l G _ a0 a1 a2 a3 a4 a14 a15 a16 a17 a18 a5 a9 a19 a20 a21 a22) rfl rfl ⟨Nat.le_of_ble_eq_true rfl, Nat.le_of_ble_eq_true rfl⟩ rfl hl.1 rfl (Nat.le_of_ble_eq_true rfl) dX11_become_37 ⟨(Nat.le_of_ble_eq_true rfl), (Nat.le_of_ble_eq_true rfl)⟩) (fun r t H locs hp hB J => ?_)
    obtain ⟨hr2, hq⟩ := hB
    have B := J _ hq
    have hr3 := hr2.symm
    subst hr3
    have B : zB G A s.heap [zo a5 3 [.ref a6, .int 0, .int 0], zc G a6 40 f0, zo a7 0 [.ref a8, .int 0], zi G a8 16 (fun _ => 0), zo a9 1 [.ref a10, .ref a11, .ref a12], zi G a10 64 (fun _ => 0), zo a11 0 [.ref a13, .int 0], zo a12 0 [.ref a23, .int 0], zi G a13 384 (fun _ => 0), zo a0 9 [.ref a14, .ref a15, .ref a16, .ref a2, .ref a1, .ref a17, .ref a18, .ref a5, .ref a9, .ref a19, .ref a20, .ref a21, .ref a22, .null, .int 0, .int (-1)], zo a1 0 [.ref a3, .int 0], zo a2 0 [.ref a4, .int 0], zi G a3 16 (fun _ => 0), zi G a4 16 (fun _ => 0)] _ _ := B
    refine lv_astore_n (lv' := [(2, .ref a1), (0, .ref a0), (1, .int 0)]) E.x E.b dX11_become_40 rfl hl (by decide) rfl (fun ls hl => ?_)
    refine lv_goto (tgt := 78) E.x E.b dX11_become_41 (by decide) ?_
    refine lv_aload_n E.x E.b dX11_become_78 rfl (lv_at hl 0 rfl) ?_
    refine lv_ifnull E.x E.b dX11_become_79 ?_
    refine lv_aload_n E.x E.b dX11_become_82 rfl (lv_at hl 0 rfl) ?_
    refine z_get E B z_inX0 (ci := 0) rfl 1 (by decide) t_253 10 rfl rfl dX11_become_83 ?_
    refine lv_bipush (v := 16) E.x E.b dX11_become_86 (by decide) ?_
    refine lv_icmp_le (tgt := 93) E.x E.b dX11_become_88 (by decide) (fun _ => ?_) (fun c => absurd (by decide +kernel) c)
    refine lv_aload_n E.x E.b dX11_become_93 rfl (lv_at hl 1 rfl) ?_
    refine z_get E B z_inX11 (ci := 9) rfl 7 (by decide) t_376 9 rfl rfl dX11_become_94 ?_
    refine lv_aload_n E.x E.b dX11_become_97 rfl (lv_at hl 1 rfl) ?_
    refine z_get E B z_inX11 (ci := 9) rfl 3 (by decide) t_372 9 rfl rfl dX11_become_98 ?_
    refine z_callv E B (wc := [zo a5 3 [.ref a6, .int 0, .int 0], zc G a6 40 f0, zo a7 0 [.ref a8, .int 0], zo a2 0 [.ref a4, .int 0], zi G a8 16 (fun _ => 0), zi G a4 16 (fun _ => 0)]) (wr := [zo a9 1 [.ref a10, .ref a11, .ref a12], zi G a10 64 (fun _ => 0), zo a11 0 [.ref a13, .int 0], zo a12 0 [.ref a23, .int 0], zi G a13 384 (fun _ => 0), zo a0 9 [.ref a14, .ref a15, .ref a16, .ref a2, .ref a1, .ref a17, .ref a18, .ref a5, .ref a9, .ref a19, .ref a20, .ref a21, .ref a22, .null, .int 0, .int (-1)], zo a1 0 [.ref a3, .int 0], zi G a3 16 (fun _ => 0)]) [0, 1, 2, 11, 3, 13] [4, 5, 6, 7, 8, 9, 10, 12] rfl rfl (by decide) (by decide) (z_runV E B (As := [.ref a2]) (rest := []) [0, 1, 2, 11, 3, 13] rfl (by decide) mv_X4_keep t_691 0 (ci := 3) rfl rfl rfl (c_X4_keep_68 l G _ a5 a2 a6 a7 a8 a4 f0 hf0_0) rfl rfl ⟨Nat.le_of_ble_eq_true rfl, Nat.le_of_ble_eq_true rfl⟩ rfl hl.1 rfl (Nat.le_of_ble_eq_true rfl) dX11_become_101 ⟨(Nat.le_of_ble_eq_true rfl), (Nat.le_of_ble_eq_true rfl)⟩) (fun  t H locs hp hB J => ?_)
    have hq := hB
    have B := J _ hq
    have B : zB G A s.heap [zo a9 1 [.ref a10, .ref a11, .ref a12], zi G a10 64 (fun _ => 0), zo a11 0 [.ref a13, .int 0], zo a12 0 [.ref a23, .int 0], zi G a13 384 (fun _ => 0), zo a0 9 [.ref a14, .ref a15, .ref a16, .ref a2, .ref a1, .ref a17, .ref a18, .ref a5, .ref a9, .ref a19, .ref a20, .ref a21, .ref a22, .null, .int 0, .int (-1)], zo a1 0 [.ref a3, .int 0], zi G a3 16 (fun _ => 0), zo a5 3 [.ref a6, .int 0, .int 1], zc G a6 40 f0, zo a7 0 [.ref a8, .int 0], zo a2 0 [.ref a4, .int 0], zi G a8 16 (fun _ => 0), zi G a4 16 (fun _ => 0)] _ _ := B
    refine lv_aload_n E.x E.b dX11_become_104 rfl (lv_at hl 1 rfl) ?_
    refine z_get E B z_inX11 (ci := 9) rfl 3 (by decide) t_372 5 rfl rfl dX11_become_105 ?_
    refine lv_aload_n E.x E.b dX11_become_108 rfl (lv_at hl 0 rfl) ?_
    refine z_callv E B (wc := [zo a2 0 [.ref a4, .int 0], zo a1 0 [.ref a3, .int 0], zi G a4 16 (fun _ => 0), zi G a3 16 (fun _ => 0)]) (wr := [zo a9 1 [.ref a10, .ref a11, .ref a12], zi G a10 64 (fun _ => 0), zo a11 0 [.ref a13, .int 0], zo a12 0 [.ref a23, .int 0], zi G a13 384 (fun _ => 0), zo a0 9 [.ref a14, .ref a15, .ref a16, .ref a2, .ref a1, .ref a17, .ref a18, .ref a5, .ref a9, .ref a19, .ref a20, .ref a21, .ref a22, .null, .int 0, .int (-1)], zo a5 3 [.ref a6, .int 0, .int 1], zc G a6 40 f0, zo a7 0 [.ref a8, .int 0], zi G a8 16 (fun _ => 0)]) [11, 6, 13, 7] [0, 1, 2, 3, 4, 5, 8, 9, 10, 12] rfl rfl (by decide) (by decide) (z_runV E B (As := [.ref a1]) (rest := []) [11, 6, 13, 7] rfl (by decide) mv_X0_copy t_734 0 (ci := 0) rfl rfl rfl (c_X0_copy_64 l G _ a2 a1 a4 a3) rfl rfl ⟨Nat.le_of_ble_eq_true rfl, Nat.le_of_ble_eq_true rfl⟩ rfl hl.1 rfl (Nat.le_of_ble_eq_true rfl) dX11_become_109 ⟨(Nat.le_of_ble_eq_true rfl), (Nat.le_of_ble_eq_true rfl)⟩) (fun  t H locs hp hB J => ?_)
    have hq := hB
    have B := J _ hq
    have B : zB G A s.heap [zo a9 1 [.ref a10, .ref a11, .ref a12], zi G a10 64 (fun _ => 0), zo a11 0 [.ref a13, .int 0], zo a12 0 [.ref a23, .int 0], zi G a13 384 (fun _ => 0), zo a0 9 [.ref a14, .ref a15, .ref a16, .ref a2, .ref a1, .ref a17, .ref a18, .ref a5, .ref a9, .ref a19, .ref a20, .ref a21, .ref a22, .null, .int 0, .int (-1)], zo a5 3 [.ref a6, .int 0, .int 1], zc G a6 40 f0, zo a7 0 [.ref a8, .int 0], zi G a8 16 (fun _ => 0), zo a2 0 [.ref a4, .int 0], zo a1 0 [.ref a3, .int 0], zi G a4 16 (fun _ => 0), zi G a3 16 (fun _ => 0)] _ _ := B
    refine lv_aload_n E.x E.b dX11_become_112 rfl (lv_at hl 1 rfl) ?_
    refine z_get E B z_inX11 (ci := 9) rfl 3 (by decide) t_372 5 rfl rfl dX11_become_113 ?_
    refine z_get E B z_inX0 (ci := 0) rfl 1 (by decide) t_253 10 rfl rfl dX11_become_116 ?_
    refine W.widen (k := 8) (n := 11848) (Nat.le_of_ble_eq_true rfl) (Nat.le_of_ble_eq_true rfl) ?_
    exact z_iret E hr hlocks B (v := 0) (Or.inl ⟨(by first | decide | omega), rfl⟩) (fun t ht => z_q B [] (by decide) rfl ht) dX11_become_119
  · have e_1m : ¬ p0.toInt = 0 := zi_ne e_1
    by_cases e_2 : p0 = 1
    · subst e_2
      refine lv_tableIn (off := 41) (tgt := 44) E.x E.b dX11_become_3 (by decide) (by decide) (by decide +kernel) (by decide) ?_
      refine lv_aload_n E.x E.b dX11_become_44 rfl (lv_at hl 1 rfl) ?_
      refine lv_iconst (v := 0) E.x E.b dX11_become_45 (by decide) ?_
      refine z_callr E B (wc := [zo a0 9 [.ref a14, .ref a15, .ref a16, .ref a2, .ref a1, .ref a17, .ref a18, .ref a5, .ref a9, .ref a19, .ref a20, .ref a21, .ref a22, .null, .int 0, .int (-1)], zo a9 1 [.ref a10, .ref a11, .ref a12], zo a2 0 [.ref a4, .int 0], zi G a10 64 (fun _ => 0), zo a11 0 [.ref a13, .int 0], zo a12 0 [.ref a23, .int 0]]) (wr := [zo a1 0 [.ref a3, .int 0], zi G a3 16 (fun _ => 0), zi G a4 16 (fun _ => 0), zo a5 3 [.ref a6, .int 0, .int 0], zc G a6 40 f0, zo a7 0 [.ref a8, .int 0], zi G a8 16 (fun _ => 0), zi G a13 384 (fun _ => 0)]) [0, 9, 2, 10, 11, 12] [1, 3, 4, 5, 6, 7, 8, 13] rfl rfl (by decide) (by decide) (z_runV E B (As := [.int 0]) (rest := []) [0, 9, 2, 10, 11, 12] rfl (by decide) mv_X11_foundCascade t_790 0 (ci := 9) rfl rfl rfl (c_X11_foundCascade_74 l G _ a0 a9 a2 a10 a11 a12 a14 a15 a16 a1 a17 a18 a5 a19 a20 a21 a22 a4 a13 a23) rfl rfl ⟨Nat.le_of_ble_eq_true rfl, Nat.le_of_ble_eq_true rfl⟩ rfl hl.1 rfl (Nat.le_of_ble_eq_true rfl) dX11_become_46 ⟨(Nat.le_of_ble_eq_true rfl), (Nat.le_of_ble_eq_true rfl)⟩) (fun r t H locs hp hB J => ?_)
      obtain ⟨hr2, hq⟩ := hB
      have B := J _ hq
      have hr3 := hr2.symm
      subst hr3
      have B : zB G A s.heap [zo a1 0 [.ref a3, .int 0], zi G a3 16 (fun _ => 0), zi G a4 16 (fun _ => 0), zo a5 3 [.ref a6, .int 0, .int 0], zc G a6 40 f0, zo a7 0 [.ref a8, .int 0], zi G a8 16 (fun _ => 0), zi G a13 384 (fun _ => 0), zo a0 9 [.ref a14, .ref a15, .ref a16, .ref a2, .ref a1, .ref a17, .ref a18, .ref a5, .ref a9, .ref a19, .ref a20, .ref a21, .ref a22, .null, .int 0, .int (-1)], zo a9 1 [.ref a10, .ref a11, .ref a12], zo a2 0 [.ref a4, .int 0], zi G a10 64 (fun _ => 0), zo a11 0 [.ref a13, .int 0], zo a12 0 [.ref a23, .int 0]] _ _ := B
      refine lv_astore_n (lv' := [(2, .ref a11), (0, .ref a0), (1, .int 1)]) E.x E.b dX11_become_49 rfl hl (by decide) rfl (fun ls hl => ?_)
      refine lv_goto (tgt := 78) E.x E.b dX11_become_50 (by decide) ?_
      refine lv_aload_n E.x E.b dX11_become_78 rfl (lv_at hl 0 rfl) ?_
      refine lv_ifnull E.x E.b dX11_become_79 ?_
      refine lv_aload_n E.x E.b dX11_become_82 rfl (lv_at hl 0 rfl) ?_
      refine z_get E B z_inX0 (ci := 0) rfl 1 (by decide) t_253 12 rfl rfl dX11_become_83 ?_
      refine lv_bipush (v := 16) E.x E.b dX11_become_86 (by decide) ?_
      refine lv_icmp_le (tgt := 93) E.x E.b dX11_become_88 (by decide) (fun _ => ?_) (fun c => absurd (by decide +kernel) c)
      refine lv_aload_n E.x E.b dX11_become_93 rfl (lv_at hl 1 rfl) ?_
      refine z_get E B z_inX11 (ci := 9) rfl 7 (by decide) t_376 8 rfl rfl dX11_become_94 ?_
      refine lv_aload_n E.x E.b dX11_become_97 rfl (lv_at hl 1 rfl) ?_
      refine z_get E B z_inX11 (ci := 9) rfl 3 (by decide) t_372 8 rfl rfl dX11_become_98 ?_
      refine z_callv E B (wc := [zo a5 3 [.ref a6, .int 0, .int 0], zc G a6 40 f0, zo a7 0 [.ref a8, .int 0], zo a2 0 [.ref a4, .int 0], zi G a8 16 (fun _ => 0), zi G a4 16 (fun _ => 0)]) (wr := [zo a1 0 [.ref a3, .int 0], zi G a3 16 (fun _ => 0), zi G a13 384 (fun _ => 0), zo a0 9 [.ref a14, .ref a15, .ref a16, .ref a2, .ref a1, .ref a17, .ref a18, .ref a5, .ref a9, .ref a19, .ref a20, .ref a21, .ref a22, .null, .int 0, .int (-1)], zo a9 1 [.ref a10, .ref a11, .ref a12], zi G a10 64 (fun _ => 0), zo a11 0 [.ref a13, .int 0], zo a12 0 [.ref a23, .int 0]]) [3, 4, 5, 10, 6, 2] [0, 1, 7, 8, 9, 11, 12, 13] rfl rfl (by decide) (by decide) (z_runV E B (As := [.ref a2]) (rest := []) [3, 4, 5, 10, 6, 2] rfl (by decide) mv_X4_keep t_691 0 (ci := 3) rfl rfl rfl (c_X4_keep_68 l G _ a5 a2 a6 a7 a8 a4 f0 hf0_0) rfl rfl ⟨Nat.le_of_ble_eq_true rfl, Nat.le_of_ble_eq_true rfl⟩ rfl hl.1 rfl (Nat.le_of_ble_eq_true rfl) dX11_become_101 ⟨(Nat.le_of_ble_eq_true rfl), (Nat.le_of_ble_eq_true rfl)⟩) (fun  t H locs hp hB J => ?_)
      have hq := hB
      have B := J _ hq
      have B : zB G A s.heap [zo a1 0 [.ref a3, .int 0], zi G a3 16 (fun _ => 0), zi G a13 384 (fun _ => 0), zo a0 9 [.ref a14, .ref a15, .ref a16, .ref a2, .ref a1, .ref a17, .ref a18, .ref a5, .ref a9, .ref a19, .ref a20, .ref a21, .ref a22, .null, .int 0, .int (-1)], zo a9 1 [.ref a10, .ref a11, .ref a12], zi G a10 64 (fun _ => 0), zo a11 0 [.ref a13, .int 0], zo a12 0 [.ref a23, .int 0], zo a5 3 [.ref a6, .int 0, .int 1], zc G a6 40 f0, zo a7 0 [.ref a8, .int 0], zo a2 0 [.ref a4, .int 0], zi G a8 16 (fun _ => 0), zi G a4 16 (fun _ => 0)] _ _ := B
      refine lv_aload_n E.x E.b dX11_become_104 rfl (lv_at hl 1 rfl) ?_
      refine z_get E B z_inX11 (ci := 9) rfl 3 (by decide) t_372 3 rfl rfl dX11_become_105 ?_
      refine lv_aload_n E.x E.b dX11_become_108 rfl (lv_at hl 0 rfl) ?_
      refine z_callv E B (wc := [zo a2 0 [.ref a4, .int 0], zo a11 0 [.ref a13, .int 0], zi G a4 16 (fun _ => 0), zi G a13 384 (fun _ => 0)]) (wr := [zo a1 0 [.ref a3, .int 0], zi G a3 16 (fun _ => 0), zo a0 9 [.ref a14, .ref a15, .ref a16, .ref a2, .ref a1, .ref a17, .ref a18, .ref a5, .ref a9, .ref a19, .ref a20, .ref a21, .ref a22, .null, .int 0, .int (-1)], zo a9 1 [.ref a10, .ref a11, .ref a12], zi G a10 64 (fun _ => 0), zo a12 0 [.ref a23, .int 0], zo a5 3 [.ref a6, .int 0, .int 1], zc G a6 40 f0, zo a7 0 [.ref a8, .int 0], zi G a8 16 (fun _ => 0)]) [11, 6, 13, 2] [0, 1, 3, 4, 5, 7, 8, 9, 10, 12] rfl rfl (by decide) (by decide) (z_runV E B (As := [.ref a11]) (rest := []) [11, 6, 13, 2] rfl (by decide) mv_X0_copy t_734 0 (ci := 0) rfl rfl rfl (c_X0_copy_75 l G _ a2 a11 a4 a13) rfl rfl ⟨Nat.le_of_ble_eq_true rfl, Nat.le_of_ble_eq_true rfl⟩ rfl hl.1 rfl (Nat.le_of_ble_eq_true rfl) dX11_become_109 ⟨(Nat.le_of_ble_eq_true rfl), (Nat.le_of_ble_eq_true rfl)⟩) (fun  t H locs hp hB J => ?_)
      have hq := hB
      have B := J _ hq
      have B : zB G A s.heap [zo a1 0 [.ref a3, .int 0], zi G a3 16 (fun _ => 0), zo a0 9 [.ref a14, .ref a15, .ref a16, .ref a2, .ref a1, .ref a17, .ref a18, .ref a5, .ref a9, .ref a19, .ref a20, .ref a21, .ref a22, .null, .int 0, .int (-1)], zo a9 1 [.ref a10, .ref a11, .ref a12], zi G a10 64 (fun _ => 0), zo a12 0 [.ref a23, .int 0], zo a5 3 [.ref a6, .int 0, .int 1], zc G a6 40 f0, zo a7 0 [.ref a8, .int 0], zi G a8 16 (fun _ => 0), zo a2 0 [.ref a4, .int 0], zo a11 0 [.ref a13, .int 0], zi G a4 16 (fun _ => 0), zi G a13 384 (fun _ => 0)] _ _ := B
      refine lv_aload_n E.x E.b dX11_become_112 rfl (lv_at hl 1 rfl) ?_
      refine z_get E B z_inX11 (ci := 9) rfl 3 (by decide) t_372 2 rfl rfl dX11_become_113 ?_
      refine z_get E B z_inX0 (ci := 0) rfl 1 (by decide) t_253 10 rfl rfl dX11_become_116 ?_
      refine W.widen (k := 8) (n := 11848) (Nat.le_of_ble_eq_true rfl) (Nat.le_of_ble_eq_true rfl) ?_
      exact z_iret E hr hlocks B (v := 0) (Or.inr (Or.inl ⟨(by first | decide | omega), rfl⟩)) (fun t ht => z_q B [] (by decide) rfl ht) dX11_become_119
    · have e_2m : ¬ p0.toInt = 1 := zi_ne e_2
      by_cases e_3 : p0 = 2
      · subst e_3
        refine lv_tableIn (off := 50) (tgt := 53) E.x E.b dX11_become_3 (by decide) (by decide) (by decide +kernel) (by decide) ?_
        refine lv_aload_n E.x E.b dX11_become_53 rfl (lv_at hl 1 rfl) ?_
        refine lv_iconst (v := 1) E.x E.b dX11_become_54 (by decide) ?_
        refine z_callr E B (wc := [zo a0 9 [.ref a14, .ref a15, .ref a16, .ref a2, .ref a1, .ref a17, .ref a18, .ref a5, .ref a9, .ref a19, .ref a20, .ref a21, .ref a22, .null, .int 0, .int (-1)], zo a9 1 [.ref a10, .ref a11, .ref a12], zo a2 0 [.ref a4, .int 0], zi G a10 64 (fun _ => 0), zo a11 0 [.ref a13, .int 0], zo a12 0 [.ref a23, .int 0]]) (wr := [zo a1 0 [.ref a3, .int 0], zi G a3 16 (fun _ => 0), zi G a4 16 (fun _ => 0), zo a5 3 [.ref a6, .int 0, .int 0], zc G a6 40 f0, zo a7 0 [.ref a8, .int 0], zi G a8 16 (fun _ => 0), zi G a13 384 (fun _ => 0)]) [0, 9, 2, 10, 11, 12] [1, 3, 4, 5, 6, 7, 8, 13] rfl rfl (by decide) (by decide) (z_runV E B (As := [.int 1]) (rest := []) [0, 9, 2, 10, 11, 12] rfl (by decide) mv_X11_foundCascade t_790 0 (ci := 9) rfl rfl rfl (c_X11_foundCascade_78 l G _ a0 a9 a2 a10 a11 a12 a14 a15 a16 a1 a17 a18 a5 a19 a20 a21 a22 a4 a13 a23) rfl rfl ⟨Nat.le_of_ble_eq_true rfl, Nat.le_of_ble_eq_true rfl⟩ rfl hl.1 rfl (Nat.le_of_ble_eq_true rfl) dX11_become_55 ⟨(Nat.le_of_ble_eq_true rfl), (Nat.le_of_ble_eq_true rfl)⟩) (fun r t H locs hp hB J => ?_)
        obtain ⟨hr2, hq⟩ := hB
        have B := J _ hq
        have hr3 := hr2.symm
        subst hr3
        have B : zB G A s.heap [zo a1 0 [.ref a3, .int 0], zi G a3 16 (fun _ => 0), zi G a4 16 (fun _ => 0), zo a5 3 [.ref a6, .int 0, .int 0], zc G a6 40 f0, zo a7 0 [.ref a8, .int 0], zi G a8 16 (fun _ => 0), zi G a13 384 (fun _ => 0), zo a0 9 [.ref a14, .ref a15, .ref a16, .ref a2, .ref a1, .ref a17, .ref a18, .ref a5, .ref a9, .ref a19, .ref a20, .ref a21, .ref a22, .null, .int 0, .int (-1)], zo a9 1 [.ref a10, .ref a11, .ref a12], zo a2 0 [.ref a4, .int 0], zi G a10 64 (fun _ => 0), zo a11 0 [.ref a13, .int 0], zo a12 0 [.ref a23, .int 0]] _ _ := B
        refine lv_astore_n (lv' := [(2, .ref a11), (0, .ref a0), (1, .int 2)]) E.x E.b dX11_become_58 rfl hl (by decide) rfl (fun ls hl => ?_)
        refine lv_goto (tgt := 78) E.x E.b dX11_become_59 (by decide) ?_
        refine lv_aload_n E.x E.b dX11_become_78 rfl (lv_at hl 0 rfl) ?_
        refine lv_ifnull E.x E.b dX11_become_79 ?_
        refine lv_aload_n E.x E.b dX11_become_82 rfl (lv_at hl 0 rfl) ?_
        refine z_get E B z_inX0 (ci := 0) rfl 1 (by decide) t_253 12 rfl rfl dX11_become_83 ?_
        refine lv_bipush (v := 16) E.x E.b dX11_become_86 (by decide) ?_
        refine lv_icmp_le (tgt := 93) E.x E.b dX11_become_88 (by decide) (fun _ => ?_) (fun c => absurd (by decide +kernel) c)
        refine lv_aload_n E.x E.b dX11_become_93 rfl (lv_at hl 1 rfl) ?_
        refine z_get E B z_inX11 (ci := 9) rfl 7 (by decide) t_376 8 rfl rfl dX11_become_94 ?_
        refine lv_aload_n E.x E.b dX11_become_97 rfl (lv_at hl 1 rfl) ?_
        refine z_get E B z_inX11 (ci := 9) rfl 3 (by decide) t_372 8 rfl rfl dX11_become_98 ?_
        refine z_callv E B (wc := [zo a5 3 [.ref a6, .int 0, .int 0], zc G a6 40 f0, zo a7 0 [.ref a8, .int 0], zo a2 0 [.ref a4, .int 0], zi G a8 16 (fun _ => 0), zi G a4 16 (fun _ => 0)]) (wr := [zo a1 0 [.ref a3, .int 0], zi G a3 16 (fun _ => 0), zi G a13 384 (fun _ => 0), zo a0 9 [.ref a14, .ref a15, .ref a16, .ref a2, .ref a1, .ref a17, .ref a18, .ref a5, .ref a9, .ref a19, .ref a20, .ref a21, .ref a22, .null, .int 0, .int (-1)], zo a9 1 [.ref a10, .ref a11, .ref a12], zi G a10 64 (fun _ => 0), zo a11 0 [.ref a13, .int 0], zo a12 0 [.ref a23, .int 0]]) [3, 4, 5, 10, 6, 2] [0, 1, 7, 8, 9, 11, 12, 13] rfl rfl (by decide) (by decide) (z_runV E B (As := [.ref a2]) (rest := []) [3, 4, 5, 10, 6, 2] rfl (by decide) mv_X4_keep t_691 0 (ci := 3) rfl rfl rfl (c_X4_keep_68 l G _ a5 a2 a6 a7 a8 a4 f0 hf0_0) rfl rfl ⟨Nat.le_of_ble_eq_true rfl, Nat.le_of_ble_eq_true rfl⟩ rfl hl.1 rfl (Nat.le_of_ble_eq_true rfl) dX11_become_101 ⟨(Nat.le_of_ble_eq_true rfl), (Nat.le_of_ble_eq_true rfl)⟩) (fun  t H locs hp hB J => ?_)
        have hq := hB
        have B := J _ hq
        have B : zB G A s.heap [zo a1 0 [.ref a3, .int 0], zi G a3 16 (fun _ => 0), zi G a13 384 (fun _ => 0), zo a0 9 [.ref a14, .ref a15, .ref a16, .ref a2, .ref a1, .ref a17, .ref a18, .ref a5, .ref a9, .ref a19, .ref a20, .ref a21, .ref a22, .null, .int 0, .int (-1)], zo a9 1 [.ref a10, .ref a11, .ref a12], zi G a10 64 (fun _ => 0), zo a11 0 [.ref a13, .int 0], zo a12 0 [.ref a23, .int 0], zo a5 3 [.ref a6, .int 0, .int 1], zc G a6 40 f0, zo a7 0 [.ref a8, .int 0], zo a2 0 [.ref a4, .int 0], zi G a8 16 (fun _ => 0), zi G a4 16 (fun _ => 0)] _ _ := B
        refine lv_aload_n E.x E.b dX11_become_104 rfl (lv_at hl 1 rfl) ?_
        refine z_get E B z_inX11 (ci := 9) rfl 3 (by decide) t_372 3 rfl rfl dX11_become_105 ?_
        refine lv_aload_n E.x E.b dX11_become_108 rfl (lv_at hl 0 rfl) ?_
        refine z_callv E B (wc := [zo a2 0 [.ref a4, .int 0], zo a11 0 [.ref a13, .int 0], zi G a4 16 (fun _ => 0), zi G a13 384 (fun _ => 0)]) (wr := [zo a1 0 [.ref a3, .int 0], zi G a3 16 (fun _ => 0), zo a0 9 [.ref a14, .ref a15, .ref a16, .ref a2, .ref a1, .ref a17, .ref a18, .ref a5, .ref a9, .ref a19, .ref a20, .ref a21, .ref a22, .null, .int 0, .int (-1)], zo a9 1 [.ref a10, .ref a11, .ref a12], zi G a10 64 (fun _ => 0), zo a12 0 [.ref a23, .int 0], zo a5 3 [.ref a6, .int 0, .int 1], zc G a6 40 f0, zo a7 0 [.ref a8, .int 0], zi G a8 16 (fun _ => 0)]) [11, 6, 13, 2] [0, 1, 3, 4, 5, 7, 8, 9, 10, 12] rfl rfl (by decide) (by decide) (z_runV E B (As := [.ref a11]) (rest := []) [11, 6, 13, 2] rfl (by decide) mv_X0_copy t_734 0 (ci := 0) rfl rfl rfl (c_X0_copy_75 l G _ a2 a11 a4 a13) rfl rfl ⟨Nat.le_of_ble_eq_true rfl, Nat.le_of_ble_eq_true rfl⟩ rfl hl.1 rfl (Nat.le_of_ble_eq_true rfl) dX11_become_109 ⟨(Nat.le_of_ble_eq_true rfl), (Nat.le_of_ble_eq_true rfl)⟩) (fun  t H locs hp hB J => ?_)
        have hq := hB
        have B := J _ hq
        have B : zB G A s.heap [zo a1 0 [.ref a3, .int 0], zi G a3 16 (fun _ => 0), zo a0 9 [.ref a14, .ref a15, .ref a16, .ref a2, .ref a1, .ref a17, .ref a18, .ref a5, .ref a9, .ref a19, .ref a20, .ref a21, .ref a22, .null, .int 0, .int (-1)], zo a9 1 [.ref a10, .ref a11, .ref a12], zi G a10 64 (fun _ => 0), zo a12 0 [.ref a23, .int 0], zo a5 3 [.ref a6, .int 0, .int 1], zc G a6 40 f0, zo a7 0 [.ref a8, .int 0], zi G a8 16 (fun _ => 0), zo a2 0 [.ref a4, .int 0], zo a11 0 [.ref a13, .int 0], zi G a4 16 (fun _ => 0), zi G a13 384 (fun _ => 0)] _ _ := B
        refine lv_aload_n E.x E.b dX11_become_112 rfl (lv_at hl 1 rfl) ?_
        refine z_get E B z_inX11 (ci := 9) rfl 3 (by decide) t_372 2 rfl rfl dX11_become_113 ?_
        refine z_get E B z_inX0 (ci := 0) rfl 1 (by decide) t_253 10 rfl rfl dX11_become_116 ?_
        refine W.widen (k := 8) (n := 11848) (Nat.le_of_ble_eq_true rfl) (Nat.le_of_ble_eq_true rfl) ?_
        exact z_iret E hr hlocks B (v := 0) (Or.inr (Or.inr (Or.inl ⟨(by first | decide | omega), rfl⟩))) (fun t ht => z_q B [] (by decide) rfl ht) dX11_become_119
      · have e_3m : ¬ p0.toInt = 2 := zi_ne e_3
        by_cases e_4 : p0 = 3
        · subst e_4
          refine lv_tableIn (off := 59) (tgt := 62) E.x E.b dX11_become_3 (by decide) (by decide) (by decide +kernel) (by decide) ?_
          refine lv_aload_n E.x E.b dX11_become_62 rfl (lv_at hl 1 rfl) ?_
          refine z_callr E B (wc := [zo a0 9 [.ref a14, .ref a15, .ref a16, .ref a2, .ref a1, .ref a17, .ref a18, .ref a5, .ref a9, .ref a19, .ref a20, .ref a21, .ref a22, .null, .int 0, .int (-1)], zo a1 0 [.ref a3, .int 0], zo a2 0 [.ref a4, .int 0], zi G a3 16 (fun _ => 0), zi G a4 16 (fun _ => 0)]) (wr := [zo a5 3 [.ref a6, .int 0, .int 0], zc G a6 40 f0, zo a7 0 [.ref a8, .int 0], zi G a8 16 (fun _ => 0), zo a9 1 [.ref a10, .ref a11, .ref a12], zi G a10 64 (fun _ => 0), zo a11 0 [.ref a13, .int 0], zo a12 0 [.ref a23, .int 0], zi G a13 384 (fun _ => 0)]) [0, 1, 2, 3, 4] [5, 6, 7, 8, 9, 10, 11, 12, 13] rfl rfl (by decide) (by decide) (z_runV E B (As := []) (rest := []) [0, 1, 2, 3, 4] rfl (by decide) mv_X11_turnedCascade t_832 0 (ci := 9) rfl rfl rfl (c_X11_turnedCascade_80 l G _ a0 a1 a2 a3 a4 a14 a15 a16 a17 a18 a5 a9 a19 a20 a21 a22) rfl rfl ⟨Nat.le_of_ble_eq_true rfl, Nat.le_of_ble_eq_true rfl⟩ rfl hl.1 rfl (Nat.le_of_ble_eq_true rfl) dX11_become_63 ⟨(Nat.le_of_ble_eq_true rfl), (Nat.le_of_ble_eq_true rfl)⟩) (fun r t H locs hp hB J => ?_)
          obtain ⟨hr2, hq⟩ := hB
          have B := J _ hq
          have hr3 := hr2.symm
          subst hr3
          have B : zB G A s.heap [zo a5 3 [.ref a6, .int 0, .int 0], zc G a6 40 f0, zo a7 0 [.ref a8, .int 0], zi G a8 16 (fun _ => 0), zo a9 1 [.ref a10, .ref a11, .ref a12], zi G a10 64 (fun _ => 0), zo a11 0 [.ref a13, .int 0], zo a12 0 [.ref a23, .int 0], zi G a13 384 (fun _ => 0), zo a0 9 [.ref a14, .ref a15, .ref a16, .ref a2, .ref a1, .ref a17, .ref a18, .ref a5, .ref a9, .ref a19, .ref a20, .ref a21, .ref a22, .null, .int 0, .int (-1)], zo a1 0 [.ref a3, .int 0], zo a2 0 [.ref a4, .int 0], zi G a3 16 (fun _ => 0), zi G a4 16 (fun _ => 0)] _ _ := B
          refine lv_astore_n (lv' := [(2, .ref a1), (0, .ref a0), (1, .int 3)]) E.x E.b dX11_become_66 rfl hl (by decide) rfl (fun ls hl => ?_)
          refine lv_goto (tgt := 78) E.x E.b dX11_become_67 (by decide) ?_
          refine lv_aload_n E.x E.b dX11_become_78 rfl (lv_at hl 0 rfl) ?_
          refine lv_ifnull E.x E.b dX11_become_79 ?_
          refine lv_aload_n E.x E.b dX11_become_82 rfl (lv_at hl 0 rfl) ?_
          refine z_get E B z_inX0 (ci := 0) rfl 1 (by decide) t_253 10 rfl rfl dX11_become_83 ?_
          refine lv_bipush (v := 16) E.x E.b dX11_become_86 (by decide) ?_
          refine lv_icmp_le (tgt := 93) E.x E.b dX11_become_88 (by decide) (fun _ => ?_) (fun c => absurd (by decide +kernel) c)
          refine lv_aload_n E.x E.b dX11_become_93 rfl (lv_at hl 1 rfl) ?_
          refine z_get E B z_inX11 (ci := 9) rfl 7 (by decide) t_376 9 rfl rfl dX11_become_94 ?_
          refine lv_aload_n E.x E.b dX11_become_97 rfl (lv_at hl 1 rfl) ?_
          refine z_get E B z_inX11 (ci := 9) rfl 3 (by decide) t_372 9 rfl rfl dX11_become_98 ?_
          refine z_callv E B (wc := [zo a5 3 [.ref a6, .int 0, .int 0], zc G a6 40 f0, zo a7 0 [.ref a8, .int 0], zo a2 0 [.ref a4, .int 0], zi G a8 16 (fun _ => 0), zi G a4 16 (fun _ => 0)]) (wr := [zo a9 1 [.ref a10, .ref a11, .ref a12], zi G a10 64 (fun _ => 0), zo a11 0 [.ref a13, .int 0], zo a12 0 [.ref a23, .int 0], zi G a13 384 (fun _ => 0), zo a0 9 [.ref a14, .ref a15, .ref a16, .ref a2, .ref a1, .ref a17, .ref a18, .ref a5, .ref a9, .ref a19, .ref a20, .ref a21, .ref a22, .null, .int 0, .int (-1)], zo a1 0 [.ref a3, .int 0], zi G a3 16 (fun _ => 0)]) [0, 1, 2, 11, 3, 13] [4, 5, 6, 7, 8, 9, 10, 12] rfl rfl (by decide) (by decide) (z_runV E B (As := [.ref a2]) (rest := []) [0, 1, 2, 11, 3, 13] rfl (by decide) mv_X4_keep t_691 0 (ci := 3) rfl rfl rfl (c_X4_keep_68 l G _ a5 a2 a6 a7 a8 a4 f0 hf0_0) rfl rfl ⟨Nat.le_of_ble_eq_true rfl, Nat.le_of_ble_eq_true rfl⟩ rfl hl.1 rfl (Nat.le_of_ble_eq_true rfl) dX11_become_101 ⟨(Nat.le_of_ble_eq_true rfl), (Nat.le_of_ble_eq_true rfl)⟩) (fun  t H locs hp hB J => ?_)
          have hq := hB
          have B := J _ hq
          have B : zB G A s.heap [zo a9 1 [.ref a10, .ref a11, .ref a12], zi G a10 64 (fun _ => 0), zo a11 0 [.ref a13, .int 0], zo a12 0 [.ref a23, .int 0], zi G a13 384 (fun _ => 0), zo a0 9 [.ref a14, .ref a15, .ref a16, .ref a2, .ref a1, .ref a17, .ref a18, .ref a5, .ref a9, .ref a19, .ref a20, .ref a21, .ref a22, .null, .int 0, .int (-1)], zo a1 0 [.ref a3, .int 0], zi G a3 16 (fun _ => 0), zo a5 3 [.ref a6, .int 0, .int 1], zc G a6 40 f0, zo a7 0 [.ref a8, .int 0], zo a2 0 [.ref a4, .int 0], zi G a8 16 (fun _ => 0), zi G a4 16 (fun _ => 0)] _ _ := B
          refine lv_aload_n E.x E.b dX11_become_104 rfl (lv_at hl 1 rfl) ?_
          refine z_get E B z_inX11 (ci := 9) rfl 3 (by decide) t_372 5 rfl rfl dX11_become_105 ?_
          refine lv_aload_n E.x E.b dX11_become_108 rfl (lv_at hl 0 rfl) ?_
          refine z_callv E B (wc := [zo a2 0 [.ref a4, .int 0], zo a1 0 [.ref a3, .int 0], zi G a4 16 (fun _ => 0), zi G a3 16 (fun _ => 0)]) (wr := [zo a9 1 [.ref a10, .ref a11, .ref a12], zi G a10 64 (fun _ => 0), zo a11 0 [.ref a13, .int 0], zo a12 0 [.ref a23, .int 0], zi G a13 384 (fun _ => 0), zo a0 9 [.ref a14, .ref a15, .ref a16, .ref a2, .ref a1, .ref a17, .ref a18, .ref a5, .ref a9, .ref a19, .ref a20, .ref a21, .ref a22, .null, .int 0, .int (-1)], zo a5 3 [.ref a6, .int 0, .int 1], zc G a6 40 f0, zo a7 0 [.ref a8, .int 0], zi G a8 16 (fun _ => 0)]) [11, 6, 13, 7] [0, 1, 2, 3, 4, 5, 8, 9, 10, 12] rfl rfl (by decide) (by decide) (z_runV E B (As := [.ref a1]) (rest := []) [11, 6, 13, 7] rfl (by decide) mv_X0_copy t_734 0 (ci := 0) rfl rfl rfl (c_X0_copy_64 l G _ a2 a1 a4 a3) rfl rfl ⟨Nat.le_of_ble_eq_true rfl, Nat.le_of_ble_eq_true rfl⟩ rfl hl.1 rfl (Nat.le_of_ble_eq_true rfl) dX11_become_109 ⟨(Nat.le_of_ble_eq_true rfl), (Nat.le_of_ble_eq_true rfl)⟩) (fun  t H locs hp hB J => ?_)
          have hq := hB
          have B := J _ hq
          have B : zB G A s.heap [zo a9 1 [.ref a10, .ref a11, .ref a12], zi G a10 64 (fun _ => 0), zo a11 0 [.ref a13, .int 0], zo a12 0 [.ref a23, .int 0], zi G a13 384 (fun _ => 0), zo a0 9 [.ref a14, .ref a15, .ref a16, .ref a2, .ref a1, .ref a17, .ref a18, .ref a5, .ref a9, .ref a19, .ref a20, .ref a21, .ref a22, .null, .int 0, .int (-1)], zo a5 3 [.ref a6, .int 0, .int 1], zc G a6 40 f0, zo a7 0 [.ref a8, .int 0], zi G a8 16 (fun _ => 0), zo a2 0 [.ref a4, .int 0], zo a1 0 [.ref a3, .int 0], zi G a4 16 (fun _ => 0), zi G a3 16 (fun _ => 0)] _ _ := B
          refine lv_aload_n E.x E.b dX11_become_112 rfl (lv_at hl 1 rfl) ?_
          refine z_get E B z_inX11 (ci := 9) rfl 3 (by decide) t_372 5 rfl rfl dX11_become_113 ?_
          refine z_get E B z_inX0 (ci := 0) rfl 1 (by decide) t_253 10 rfl rfl dX11_become_116 ?_
          refine W.widen (k := 8) (n := 11848) (Nat.le_of_ble_eq_true rfl) (Nat.le_of_ble_eq_true rfl) ?_
          exact z_iret E hr hlocks B (v := 0) (Or.inr (Or.inr (Or.inr (Or.inl ⟨(by first | decide | omega), rfl⟩)))) (fun t ht => z_q B [] (by decide) rfl ht) dX11_become_119
        · have e_4m : ¬ p0.toInt = 3 := zi_ne e_4
          by_cases e_5 : p0 = 4
          · subst e_5
            refine lv_tableIn (off := 67) (tgt := 70) E.x E.b dX11_become_3 (by decide) (by decide) (by decide +kernel) (by decide) ?_
            refine lv_aload_n E.x E.b dX11_become_70 rfl (lv_at hl 1 rfl) ?_
            refine z_callr E B (wc := [zo a0 9 [.ref a14, .ref a15, .ref a16, .ref a2, .ref a1, .ref a17, .ref a18, .ref a5, .ref a9, .ref a19, .ref a20, .ref a21, .ref a22, .null, .int 0, .int (-1)], zo a9 1 [.ref a10, .ref a11, .ref a12], zo a2 0 [.ref a4, .int 0], zi G a10 64 (fun _ => 0)]) (wr := [zo a1 0 [.ref a3, .int 0], zi G a3 16 (fun _ => 0), zi G a4 16 (fun _ => 0), zo a5 3 [.ref a6, .int 0, .int 0], zc G a6 40 f0, zo a7 0 [.ref a8, .int 0], zi G a8 16 (fun _ => 0), zo a11 0 [.ref a13, .int 0], zo a12 0 [.ref a23, .int 0], zi G a13 384 (fun _ => 0)]) [0, 9, 2, 10] [1, 3, 4, 5, 6, 7, 8, 11, 12, 13] rfl rfl (by decide) (by decide) (z_runV E B (As := []) (rest := []) [0, 9, 2, 10] rfl (by decide) mv_X11_leastCascade t_840 0 (ci := 9) rfl rfl rfl (c_X11_leastCascade_95 l G _ a0 a9 a2 a10 a14 a15 a16 a1 a17 a18 a5 a19 a20 a21 a22 a11 a12 a4) rfl rfl ⟨Nat.le_of_ble_eq_true rfl, Nat.le_of_ble_eq_true rfl⟩ rfl hl.1 rfl (Nat.le_of_ble_eq_true rfl) dX11_become_71 ⟨(Nat.le_of_ble_eq_true rfl), (Nat.le_of_ble_eq_true rfl)⟩) (fun r t H locs hp hB J => ?_)
            obtain ⟨q_6, q_7, q_8, q_9, q_10, q_11, q_12, q_13, hr2, hq⟩ := hB
            have B := J _ hq
            have hr3 := hr2.symm
            subst hr3
            have B : zB G A s.heap [zo a1 0 [.ref a3, .int 0], zi G a3 16 (fun _ => 0), zi G a4 16 (fun _ => 0), zo a5 3 [.ref a6, .int 0, .int 0], zc G a6 40 f0, zo a7 0 [.ref a8, .int 0], zi G a8 16 (fun _ => 0), zo a11 0 [.ref a13, .int 0], zo a12 0 [.ref a23, .int 0], zi G a13 384 (fun _ => 0), zo a0 9 [.ref a14, .ref a15, .ref a16, .ref a2, .ref a1, .ref a17, .ref a18, .ref a5, .ref a9, .ref a19, .ref a20, .ref a21, .ref a22, .ref q_6, .int 0, .int (-1)], zo a9 1 [.ref a10, .ref a11, .ref a12], zo a2 0 [.ref a4, .int 0], zi G a10 64 (fun _ => 0), zi G q_7 8 (fun _ => 0), zi G q_8 12 (fun _ => 0), zi G q_9 12 (fun _ => 0), zi G q_10 12 (fun _ => 0), zo q_6 5 [.ref q_11, .ref q_12, .ref q_13, .ref q_8, .ref q_9, .ref q_10, .int 1, .int 0, .int 0, .int 0], zi G q_12 8192 (upd (fun _ => 0) 0 16777216), zi G q_13 3600 (fun _ => 0), zo q_11 0 [.ref q_7, .int 0]] _ _ := B
            refine lv_astore_n (lv' := [(2, .ref q_11), (0, .ref a0), (1, .int 4)]) E.x E.b dX11_become_74 rfl hl (by decide) rfl (fun ls hl => ?_)
            refine lv_goto (tgt := 78) E.x E.b dX11_become_75 (by decide) ?_
            refine lv_aload_n E.x E.b dX11_become_78 rfl (lv_at hl 0 rfl) ?_
            refine lv_ifnull E.x E.b dX11_become_79 ?_
            refine lv_aload_n E.x E.b dX11_become_82 rfl (lv_at hl 0 rfl) ?_
            refine z_get E B z_inX0 (ci := 0) rfl 1 (by decide) t_253 21 rfl rfl dX11_become_83 ?_
            refine lv_bipush (v := 16) E.x E.b dX11_become_86 (by decide) ?_
            refine lv_icmp_le (tgt := 93) E.x E.b dX11_become_88 (by decide) (fun _ => ?_) (fun c => absurd (by decide +kernel) c)
            refine lv_aload_n E.x E.b dX11_become_93 rfl (lv_at hl 1 rfl) ?_
            refine z_get E B z_inX11 (ci := 9) rfl 7 (by decide) t_376 10 rfl rfl dX11_become_94 ?_
            refine lv_aload_n E.x E.b dX11_become_97 rfl (lv_at hl 1 rfl) ?_
            refine z_get E B z_inX11 (ci := 9) rfl 3 (by decide) t_372 10 rfl rfl dX11_become_98 ?_
            refine z_callv E B (wc := [zo a5 3 [.ref a6, .int 0, .int 0], zc G a6 40 f0, zo a7 0 [.ref a8, .int 0], zo a2 0 [.ref a4, .int 0], zi G a8 16 (fun _ => 0), zi G a4 16 (fun _ => 0)]) (wr := [zo a1 0 [.ref a3, .int 0], zi G a3 16 (fun _ => 0), zo a11 0 [.ref a13, .int 0], zo a12 0 [.ref a23, .int 0], zi G a13 384 (fun _ => 0), zo a0 9 [.ref a14, .ref a15, .ref a16, .ref a2, .ref a1, .ref a17, .ref a18, .ref a5, .ref a9, .ref a19, .ref a20, .ref a21, .ref a22, .ref q_6, .int 0, .int (-1)], zo a9 1 [.ref a10, .ref a11, .ref a12], zi G a10 64 (fun _ => 0), zi G q_7 8 (fun _ => 0), zi G q_8 12 (fun _ => 0), zi G q_9 12 (fun _ => 0), zi G q_10 12 (fun _ => 0), zo q_6 5 [.ref q_11, .ref q_12, .ref q_13, .ref q_8, .ref q_9, .ref q_10, .int 1, .int 0, .int 0, .int 0], zi G q_12 8192 (upd (fun _ => 0) 0 16777216), zi G q_13 3600 (fun _ => 0), zo q_11 0 [.ref q_7, .int 0]]) [3, 4, 5, 12, 6, 2] [0, 1, 7, 8, 9, 10, 11, 13, 14, 15, 16, 17, 18, 19, 20, 21] rfl rfl (by decide) (by decide) (z_runV E B (As := [.ref a2]) (rest := []) [3, 4, 5, 12, 6, 2] rfl (by decide) mv_X4_keep t_691 0 (ci := 3) rfl rfl rfl (c_X4_keep_68 l G _ a5 a2 a6 a7 a8 a4 f0 hf0_0) rfl rfl ⟨Nat.le_of_ble_eq_true rfl, Nat.le_of_ble_eq_true rfl⟩ rfl hl.1 rfl (Nat.le_of_ble_eq_true rfl) dX11_become_101 ⟨(Nat.le_of_ble_eq_true rfl), (Nat.le_of_ble_eq_true rfl)⟩) (fun  t H locs hp hB J => ?_)
            have hq := hB
            have B := J _ hq
            have B : zB G A s.heap [zo a1 0 [.ref a3, .int 0], zi G a3 16 (fun _ => 0), zo a11 0 [.ref a13, .int 0], zo a12 0 [.ref a23, .int 0], zi G a13 384 (fun _ => 0), zo a0 9 [.ref a14, .ref a15, .ref a16, .ref a2, .ref a1, .ref a17, .ref a18, .ref a5, .ref a9, .ref a19, .ref a20, .ref a21, .ref a22, .ref q_6, .int 0, .int (-1)], zo a9 1 [.ref a10, .ref a11, .ref a12], zi G a10 64 (fun _ => 0), zi G q_7 8 (fun _ => 0), zi G q_8 12 (fun _ => 0), zi G q_9 12 (fun _ => 0), zi G q_10 12 (fun _ => 0), zo q_6 5 [.ref q_11, .ref q_12, .ref q_13, .ref q_8, .ref q_9, .ref q_10, .int 1, .int 0, .int 0, .int 0], zi G q_12 8192 (upd (fun _ => 0) 0 16777216), zi G q_13 3600 (fun _ => 0), zo q_11 0 [.ref q_7, .int 0], zo a5 3 [.ref a6, .int 0, .int 1], zc G a6 40 f0, zo a7 0 [.ref a8, .int 0], zo a2 0 [.ref a4, .int 0], zi G a8 16 (fun _ => 0), zi G a4 16 (fun _ => 0)] _ _ := B
            refine lv_aload_n E.x E.b dX11_become_104 rfl (lv_at hl 1 rfl) ?_
            refine z_get E B z_inX11 (ci := 9) rfl 3 (by decide) t_372 5 rfl rfl dX11_become_105 ?_
            refine lv_aload_n E.x E.b dX11_become_108 rfl (lv_at hl 0 rfl) ?_
            refine z_callv E B (wc := [zo a2 0 [.ref a4, .int 0], zo q_11 0 [.ref q_7, .int 0], zi G a4 16 (fun _ => 0), zi G q_7 8 (fun _ => 0)]) (wr := [zo a1 0 [.ref a3, .int 0], zi G a3 16 (fun _ => 0), zo a11 0 [.ref a13, .int 0], zo a12 0 [.ref a23, .int 0], zi G a13 384 (fun _ => 0), zo a0 9 [.ref a14, .ref a15, .ref a16, .ref a2, .ref a1, .ref a17, .ref a18, .ref a5, .ref a9, .ref a19, .ref a20, .ref a21, .ref a22, .ref q_6, .int 0, .int (-1)], zo a9 1 [.ref a10, .ref a11, .ref a12], zi G a10 64 (fun _ => 0), zi G q_8 12 (fun _ => 0), zi G q_9 12 (fun _ => 0), zi G q_10 12 (fun _ => 0), zo q_6 5 [.ref q_11, .ref q_12, .ref q_13, .ref q_8, .ref q_9, .ref q_10, .int 1, .int 0, .int 0, .int 0], zi G q_12 8192 (upd (fun _ => 0) 0 16777216), zi G q_13 3600 (fun _ => 0), zo a5 3 [.ref a6, .int 0, .int 1], zc G a6 40 f0, zo a7 0 [.ref a8, .int 0], zi G a8 16 (fun _ => 0)]) [19, 15, 21, 8] [0, 1, 2, 3, 4, 5, 6, 7, 9, 10, 11, 12, 13, 14, 16, 17, 18, 20] rfl rfl (by decide) (by decide) (z_runV E B (As := [.ref q_11]) (rest := []) [19, 15, 21, 8] rfl (by decide) mv_X0_copy t_734 0 (ci := 0) rfl rfl rfl (c_X0_copy_96 l G _ a2 q_11 a4 q_7) rfl rfl ⟨Nat.le_of_ble_eq_true rfl, Nat.le_of_ble_eq_true rfl⟩ rfl hl.1 rfl (Nat.le_of_ble_eq_true rfl) dX11_become_109 ⟨(Nat.le_of_ble_eq_true rfl), (Nat.le_of_ble_eq_true rfl)⟩) (fun  t H locs hp hB J => ?_)
            have hq := hB
            have B := J _ hq
            have B : zB G A s.heap [zo a1 0 [.ref a3, .int 0], zi G a3 16 (fun _ => 0), zo a11 0 [.ref a13, .int 0], zo a12 0 [.ref a23, .int 0], zi G a13 384 (fun _ => 0), zo a0 9 [.ref a14, .ref a15, .ref a16, .ref a2, .ref a1, .ref a17, .ref a18, .ref a5, .ref a9, .ref a19, .ref a20, .ref a21, .ref a22, .ref q_6, .int 0, .int (-1)], zo a9 1 [.ref a10, .ref a11, .ref a12], zi G a10 64 (fun _ => 0), zi G q_8 12 (fun _ => 0), zi G q_9 12 (fun _ => 0), zi G q_10 12 (fun _ => 0), zo q_6 5 [.ref q_11, .ref q_12, .ref q_13, .ref q_8, .ref q_9, .ref q_10, .int 1, .int 0, .int 0, .int 0], zi G q_12 8192 (upd (fun _ => 0) 0 16777216), zi G q_13 3600 (fun _ => 0), zo a5 3 [.ref a6, .int 0, .int 1], zc G a6 40 f0, zo a7 0 [.ref a8, .int 0], zi G a8 16 (fun _ => 0), zo a2 0 [.ref a4, .int 0], zo q_11 0 [.ref q_7, .int 0], zi G a4 16 (fun _ => 0), zi G q_7 8 (fun _ => 0)] _ _ := B
            refine lv_aload_n E.x E.b dX11_become_112 rfl (lv_at hl 1 rfl) ?_
            refine z_get E B z_inX11 (ci := 9) rfl 3 (by decide) t_372 5 rfl rfl dX11_become_113 ?_
            refine z_get E B z_inX0 (ci := 0) rfl 1 (by decide) t_253 18 rfl rfl dX11_become_116 ?_
            refine W.widen (k := 8) (n := 11848) (Nat.le_of_ble_eq_true rfl) (Nat.le_of_ble_eq_true rfl) ?_
            exact z_iret E hr hlocks B (v := 0) (Or.inr (Or.inr (Or.inr (Or.inr (Or.inl ⟨(by first | decide | omega), rfl⟩))))) (fun t ht => z_q B [] (by decide) rfl ht) dX11_become_119
          · have e_5m : ¬ p0.toInt = 4 := zi_ne e_5
            refine lv_tableOut (tgt := 78) E.x E.b dX11_become_3 (by omega) (by decide) ?_
            refine lv_aload_nN E.x E.b dX11_become_78 rfl (lv_at hl 0 rfl) ?_
            refine lv_ifnullN (tgt := 91) E.x E.b dX11_become_79 (by decide) ?_
            refine lv_iconst (v := (-1)) E.x E.b dX11_become_91 (by decide) ?_
            refine W.widen (k := 8) (n := 11848) (Nat.le_of_ble_eq_true rfl) (Nat.le_of_ble_eq_true rfl) ?_
            exact z_iret E hr hlocks B (v := (-1)) (Or.inr (Or.inr (Or.inr (Or.inr (Or.inr (⟨(by first | decide | omega), (by first | decide | omega), (by first | decide | omega), (by first | decide | omega), (by first | decide | omega), rfl⟩)))))) (fun t ht => z_q B [] (by decide) rfl ht) dX11_become_92
set_option maxHeartbeats 4000000 in
set_option maxRecDepth 100000 in
theorem c_X4_bringBack_98 (l : Launch) (G : zGT) (sz : Nat) (a0 a1 a2 : Nat) : Met l yX4_bringBack (.code yX4_bringBack cX4_bringBack 2 (some .boolean) :: zT) ({ frames := 0, cells := 0, slots := 0, locals := 64 }) (va_Pc [.ref a0, .ref a1] (zPc G [zo a0 3 [.ref a2, .int 0, .int 0]] sz)) ((fun A => va_Qi (fun (r : Int32) (_ : Unit) => r = 0) (fun (_ : Unit) t => zQ G [zo a0 3 [.ref a2, .int 0, .int 0]] A t) A) (va_A [zo a0 3 [.ref a2, .int 0, .int 0]] sz)) 0 0 (va_A [zo a0 3 [.ref a2, .int 0, .int 0]] sz) := by
  refine z_start (y := yX4_bringBack) (bytes := cX4_bringBack) (maxL := 2) (ret := (some .boolean)) (av := [.ref a0, .ref a1]) (QA := (fun A => va_Qi (fun (r : Int32) (_ : Unit) => r = 0) (fun (_ : Unit) t => zQ G [zo a0 3 [.ref a2, .int 0, .int 0]] A t) A)) (by decide) ⟨Nat.le_of_ble_eq_true rfl, trivial⟩ ?_
  intro p e s m below meth c A ls E B hr hlocks hin hl
  have hl : lv_has ls 2 [(0, .ref a0), (1, .ref a1)] := hl
  have B : zB G A s.heap [zo a0 3 [.ref a2, .int 0, .int 0]] s.heap [] := B
  refine lv_aload_n E.x E.b dX4_bringBack_0 rfl (lv_at hl 0 rfl) ?_
  refine z_get E B z_inX4 (ci := 3) rfl 2 (by decide) t_271 0 rfl rfl dX4_bringBack_1 ?_
  refine lv_if_gt (tgt := 9) E.x E.b dX4_bringBack_4 (by decide) (fun c => absurd c (by decide +kernel)) (fun _ => ?_)
  refine lv_iconst (v := 0) E.x E.b dX4_bringBack_7 (by decide) ?_
  refine W.widen (k := 0) (n := 0) (Nat.le_of_ble_eq_true rfl) (Nat.le_of_ble_eq_true rfl) ?_
  exact z_zret E hr hlocks B (v := 0) rfl rfl (fun t ht => z_q B [0] (by decide) rfl ht) dX4_bringBack_8
set_option maxHeartbeats 4000000 in
set_option maxRecDepth 100000 in
theorem c_X11_undo_99 (l : Launch) (G : zGT) (sz : Nat) (a0 a1 a2 a3 a4 a5 a6 a7 a8 a9 a10 a11 a12 a13 a14 : Nat) : Met l yX11_undo (.code yX11_undo cX11_undo 1 (some .boolean) :: zT) ({ frames := 1, cells := 0, slots := 0, locals := 85 }) (va_Pc [.ref a0] (zPc G [zo a0 9 [.ref a2, .ref a3, .ref a4, .ref a5, .ref a6, .ref a7, .ref a8, .ref a1, .ref a9, .ref a10, .ref a11, .ref a12, .ref a13, .null, .int 0, .int (-1)], zo a1 3 [.ref a14, .int 0, .int 0]] sz)) ((fun A => va_Qi (fun (r : Int32) (_ : Unit) => r = 0) (fun (_ : Unit) t => zQ G [] A t) A) (va_A [zo a0 9 [.ref a2, .ref a3, .ref a4, .ref a5, .ref a6, .ref a7, .ref a8, .ref a1, .ref a9, .ref a10, .ref a11, .ref a12, .ref a13, .null, .int 0, .int (-1)], zo a1 3 [.ref a14, .int 0, .int 0]] sz)) 0 0 (va_A [zo a0 9 [.ref a2, .ref a3, .ref a4, .ref a5, .ref a6, .ref a7, .ref a8, .ref a1, .ref a9, .ref a10, .ref a11, .ref a12, .ref a13, .null, .int 0, .int (-1)], zo a1 3 [.ref a14, .int 0, .int 0]] sz) := by
  refine z_start (y := yX11_undo) (bytes := cX11_undo) (maxL := 1) (ret := (some .boolean)) (av := [.ref a0]) (QA := (fun A => va_Qi (fun (r : Int32) (_ : Unit) => r = 0) (fun (_ : Unit) t => zQ G [] A t) A)) (by decide) ⟨Nat.le_of_ble_eq_true rfl, trivial⟩ ?_
  intro p e s m below meth c A ls E B hr hlocks hin hl
  have hl : lv_has ls 1 [(0, .ref a0)] := hl
  have B : zB G A s.heap [zo a0 9 [.ref a2, .ref a3, .ref a4, .ref a5, .ref a6, .ref a7, .ref a8, .ref a1, .ref a9, .ref a10, .ref a11, .ref a12, .ref a13, .null, .int 0, .int (-1)], zo a1 3 [.ref a14, .int 0, .int 0]] s.heap [] := B
  refine lv_aload_n E.x E.b dX11_undo_0 rfl (lv_at hl 0 rfl) ?_
  refine z_get E B z_inX11 (ci := 9) rfl 7 (by decide) t_376 0 rfl rfl dX11_undo_1 ?_
  refine lv_aload_n E.x E.b dX11_undo_4 rfl (lv_at hl 0 rfl) ?_
  refine z_get E B z_inX11 (ci := 9) rfl 3 (by decide) t_372 0 rfl rfl dX11_undo_5 ?_
  refine z_calli E B (wc := [zo a1 3 [.ref a14, .int 0, .int 0]]) (wr := [zo a0 9 [.ref a2, .ref a3, .ref a4, .ref a5, .ref a6, .ref a7, .ref a8, .ref a1, .ref a9, .ref a10, .ref a11, .ref a12, .ref a13, .null, .int 0, .int (-1)]]) [1] [0] rfl rfl (by decide) (by decide) (z_runV E B (As := [.ref a5]) (rest := []) [1] rfl (by decide) mv_X4_bringBack t_945 0 (ci := 3) rfl rfl rfl (c_X4_bringBack_98 l G _ a1 a5 a14) rfl rfl ⟨Nat.le_of_ble_eq_true rfl, Nat.le_of_ble_eq_true rfl⟩ rfl hl.1 rfl (Nat.le_of_ble_eq_true rfl) dX11_undo_8 ⟨(Nat.le_of_ble_eq_true rfl), (Nat.le_of_ble_eq_true rfl)⟩) (fun r t H locs hp hB J => ?_)
  have hq := hB
  have B := J _ hq
  have B : zB G A s.heap [zo a0 9 [.ref a2, .ref a3, .ref a4, .ref a5, .ref a6, .ref a7, .ref a8, .ref a1, .ref a9, .ref a10, .ref a11, .ref a12, .ref a13, .null, .int 0, .int (-1)], zo a1 3 [.ref a14, .int 0, .int 0]] _ _ := B
  have hp := hp.symm
  subst hp
  refine W.widen (k := 0) (n := 0) (Nat.le_of_ble_eq_true rfl) (Nat.le_of_ble_eq_true rfl) ?_
  exact z_zret E hr hlocks B (v := 0) rfl rfl (fun t ht => z_q B [] (by decide) rfl ht) dX11_undo_11
set_option maxHeartbeats 4000000 in
set_option maxRecDepth 100000 in
theorem c_X11_gate_100 (l : Launch) (G : zGT) (sz : Nat) (a0 a1 a2 a3 a4 a5 a6 a7 a8 a9 a10 a11 a12 a13 a14 : Nat) (p0 p1 : Int32) : Met l yX11_gate (.code yX11_gate cX11_gate 3 (some .int) :: zT) ({ frames := 1, cells := 0, slots := 0, locals := 85 }) (va_Pc [.ref a0, .int p0, .int p1] (zPc G [zo a0 9 [.ref a2, .ref a3, .ref a4, .ref a1, .ref a5, .ref a6, .ref a7, .ref a8, .ref a9, .ref a10, .ref a11, .ref a12, .ref a13, .null, .int 0, .int (-1)], zo a1 0 [.ref a14, .int 0]] sz)) ((fun A => va_Qi (fun (r : Int32) (_ : Unit) => r = (-1)) (fun (_ : Unit) t => zQ G [] A t) A) (va_A [zo a0 9 [.ref a2, .ref a3, .ref a4, .ref a1, .ref a5, .ref a6, .ref a7, .ref a8, .ref a9, .ref a10, .ref a11, .ref a12, .ref a13, .null, .int 0, .int (-1)], zo a1 0 [.ref a14, .int 0]] sz)) 0 0 (va_A [zo a0 9 [.ref a2, .ref a3, .ref a4, .ref a1, .ref a5, .ref a6, .ref a7, .ref a8, .ref a9, .ref a10, .ref a11, .ref a12, .ref a13, .null, .int 0, .int (-1)], zo a1 0 [.ref a14, .int 0]] sz) := by
  refine z_start (y := yX11_gate) (bytes := cX11_gate) (maxL := 3) (ret := (some .int)) (av := [.ref a0, .int p0, .int p1]) (QA := (fun A => va_Qi (fun (r : Int32) (_ : Unit) => r = (-1)) (fun (_ : Unit) t => zQ G [] A t) A)) (by decide) ⟨Nat.le_of_ble_eq_true rfl, trivial⟩ ?_
  intro p e s m below meth c A ls E B hr hlocks hin hl
  have hl : lv_has ls 3 [(0, .ref a0), (1, .int p0), (2, .int p1)] := hl
  have B : zB G A s.heap [zo a0 9 [.ref a2, .ref a3, .ref a4, .ref a1, .ref a5, .ref a6, .ref a7, .ref a8, .ref a9, .ref a10, .ref a11, .ref a12, .ref a13, .null, .int 0, .int (-1)], zo a1 0 [.ref a14, .int 0]] s.heap [] := B
  refine lv_aload_n E.x E.b dX11_gate_0 rfl (lv_at hl 0 rfl) ?_
  refine z_get E B z_inX11 (ci := 9) rfl 3 (by decide) t_372 0 rfl rfl dX11_gate_1 ?_
  refine lv_iload_n E.x E.b dX11_gate_4 rfl (lv_at hl 1 rfl) ?_
  refine z_calli E B (wc := [zo a1 0 [.ref a14, .int 0]]) (wr := [zo a0 9 [.ref a2, .ref a3, .ref a4, .ref a1, .ref a5, .ref a6, .ref a7, .ref a8, .ref a9, .ref a10, .ref a11, .ref a12, .ref a13, .null, .int 0, .int (-1)]]) [1] [0] rfl rfl (by decide) (by decide) (z_runV E B (As := [.int p0]) (rest := []) [1] rfl (by decide) mv_X0_has t_709 0 (ci := 0) rfl rfl rfl (c_X0_has_61 l G _ a1 a14 p0) rfl rfl ⟨Nat.le_of_ble_eq_true rfl, Nat.le_of_ble_eq_true rfl⟩ rfl hl.1 rfl (Nat.le_of_ble_eq_true rfl) dX11_gate_5 ⟨(Nat.le_of_ble_eq_true rfl), (Nat.le_of_ble_eq_true rfl)⟩) (fun r t H locs hp hB J => ?_)
  have hq := hB
  have B := J _ hq
  have B : zB G A s.heap [zo a0 9 [.ref a2, .ref a3, .ref a4, .ref a1, .ref a5, .ref a6, .ref a7, .ref a8, .ref a9, .ref a10, .ref a11, .ref a12, .ref a13, .null, .int 0, .int (-1)], zo a1 0 [.ref a14, .int 0]] _ _ := B
  have hp := hp.symm
  subst hp
  refine lv_if_ne (tgt := 13) E.x E.b dX11_gate_8 (by decide) (fun c => absurd (by decide +kernel) c) (fun _ => ?_)
  refine lv_iconst (v := (-1)) E.x E.b dX11_gate_11 (by decide) ?_
  refine W.widen (k := 0) (n := 0) (Nat.le_of_ble_eq_true rfl) (Nat.le_of_ble_eq_true rfl) ?_
  exact z_iret E hr hlocks B (v := (-1)) rfl (fun t ht => z_q B [] (by decide) rfl ht) dX11_gate_12
