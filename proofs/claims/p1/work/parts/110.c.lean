set_option maxHeartbeats 4000000 in
set_option maxRecDepth 100000 in
theorem c_X9_choose_126 (l : Launch) (G : zGT) (sz : Nat) (a0 a1 a2 : Nat) : Met l yX9_choose (.code yX9_choose cX9_choose 3 none :: zT) ({ frames := 1, cells := 0, slots := 0, locals := 88 }) (va_Pc [.ref a0] (zPc G [zo a0 7 [.ref a1, .ref a2, .int 1, .int 0], zi G a1 16 (fun _ => 0)] sz)) ((fun A => va_Qv (fun (_ : Unit) => True) (fun (_ : Unit) t => zQ G [zo a0 7 [.ref a1, .ref a2, .int 1, .int 0], zi G a1 16 (fun _ => 0)] A t) A) (va_A [zo a0 7 [.ref a1, .ref a2, .int 1, .int 0], zi G a1 16 (fun _ => 0)] sz)) 0 0 (va_A [zo a0 7 [.ref a1, .ref a2, .int 1, .int 0], zi G a1 16 (fun _ => 0)] sz) := by
  refine z_start (y := yX9_choose) (bytes := cX9_choose) (maxL := 3) (ret := none) (av := [.ref a0]) (QA := (fun A => va_Qv (fun (_ : Unit) => True) (fun (_ : Unit) t => zQ G [zo a0 7 [.ref a1, .ref a2, .int 1, .int 0], zi G a1 16 (fun _ => 0)] A t) A)) (by decide) ⟨Nat.le_of_ble_eq_true rfl, trivial⟩ ?_
  intro p e s m below meth c A ls E B hr hlocks hin hl
  have hl : lv_has ls 3 [(0, .ref a0)] := hl
  have B : zB G A s.heap [zo a0 7 [.ref a1, .ref a2, .int 1, .int 0], zi G a1 16 (fun _ => 0)] s.heap [] := B
  refine lv_iconst (v := 0) E.x E.b dX9_choose_0 (by decide) ?_
  refine lv_istore_n (lv' := [(1, .int 0), (0, .ref a0)]) E.x E.b dX9_choose_1 rfl hl (by decide) rfl (fun ls hl => ?_)
  refine lv_iconst (v := 0) E.x E.b dX9_choose_2 (by decide) ?_
  refine lv_istore_n (lv' := [(2, .int 0), (1, .int 0), (0, .ref a0)]) E.x E.b dX9_choose_3 rfl hl (by decide) rfl (fun ls hl => ?_)
  refine lv_iload_n E.x E.b dX9_choose_4 rfl (lv_at hl 0 rfl) ?_
  refine lv_aload_n E.x E.b dX9_choose_5 rfl (lv_at hl 2 rfl) ?_
  refine z_get E B z_inX9 (ci := 7) rfl 2 (by decide) t_310 0 rfl rfl dX9_choose_6 ?_
  refine lv_icmp_ge (tgt := 33) E.x E.b dX9_choose_9 (by decide) (fun c => absurd c (by decide +kernel)) (fun _ => ?_)
  refine lv_iload_n E.x E.b dX9_choose_12 rfl (lv_at hl 0 rfl) ?_
  refine lv_bipush (v := 16) E.x E.b dX9_choose_13 (by decide) ?_
  refine lv_icmp_ge (tgt := 33) E.x E.b dX9_choose_15 (by decide) (fun c => absurd c (by decide +kernel)) (fun _ => ?_)
  refine lv_iload_n E.x E.b dX9_choose_18 rfl (lv_at hl 1 rfl) ?_
  refine lv_aload_n E.x E.b dX9_choose_19 rfl (lv_at hl 2 rfl) ?_
  refine z_get E B z_inX9 (ci := 7) rfl 0 (by decide) t_307 0 rfl rfl dX9_choose_20 ?_
  refine lv_iload_n E.x E.b dX9_choose_23 rfl (lv_at hl 0 rfl) ?_
  refine z_iald E B 1 rfl (show ¬ ((0 : Int32) < 0 ∨ 16 ≤ (0 : Int32).toNatClampNeg) by decide +kernel) dX9_choose_24 (z_topi 0 rfl ?_)
  refine lv_ior E.x E.b dX9_choose_25 (z_topi 0 (by decide +kernel) ?_)
  refine lv_istore_n (lv' := [(1, .int 0), (2, .int 0), (0, .ref a0)]) E.x E.b dX9_choose_26 rfl hl (by decide) rfl (fun ls hl => ?_)
  refine lv_iinc (v := 1) (lv' := [(2, .int 1), (1, .int 0), (0, .ref a0)]) E.x E.b dX9_choose_27 hl (k := 1) rfl (by decide +kernel) (by decide) rfl (fun ls hl => ?_)
  refine lv_goto (tgt := 4) E.x E.b dX9_choose_30 (by decide) ?_
  refine lv_iload_n E.x E.b dX9_choose_4 rfl (lv_at hl 0 rfl) ?_
  refine lv_aload_n E.x E.b dX9_choose_5 rfl (lv_at hl 2 rfl) ?_
  refine z_get E B z_inX9 (ci := 7) rfl 2 (by decide) t_310 0 rfl rfl dX9_choose_6 ?_
  refine lv_icmp_ge (tgt := 33) E.x E.b dX9_choose_9 (by decide) (fun _ => ?_) (fun c => absurd (by decide +kernel) c)
  refine lv_aload_n E.x E.b dX9_choose_33 rfl (lv_at hl 2 rfl) ?_
  refine lv_iconst (v := 0) E.x E.b dX9_choose_34 (by decide) ?_
  refine z_put E B z_inX9 tyX9 tyX9_ok nmX9 (ci := 7) rfl 3 (by decide) rfl (ty := .int) (by decide +kernel) t_311 0 rfl (Nat.le_of_ble_eq_true rfl) rfl rfl dX9_choose_35 (fun H locs B => ?_)
  have B : zB G A s.heap [zo a0 7 [.ref a1, .ref a2, .int 1, .int 0], zi G a1 16 (fun _ => 0)] _ _ := B
  refine lv_aload_n E.x E.b dX9_choose_38 rfl (lv_at hl 2 rfl) ?_
  refine z_get E B z_inX9 (ci := 7) rfl 3 (by decide) t_311 0 rfl rfl dX9_choose_39 ?_
  refine lv_bipush (v := 8) E.x E.b dX9_choose_42 (by decide) ?_
  refine lv_icmp_ge (tgt := 71) E.x E.b dX9_choose_44 (by decide) (fun c => absurd c (by decide +kernel)) (fun _ => ?_)
  refine lv_aload_n E.x E.b dX9_choose_47 rfl (lv_at hl 2 rfl) ?_
  refine lv_iconst (v := 0) E.x E.b dX9_choose_48 (by decide) ?_
  refine lv_iconst (v := 0) E.x E.b dX9_choose_49 (by decide) ?_
  refine lv_iload_n E.x E.b dX9_choose_50 rfl (lv_at hl 1 rfl) ?_
  refine z_calli E B (wc := [zo a0 7 [.ref a1, .ref a2, .int 1, .int 0]]) (wr := [zi G a1 16 (fun _ => 0)]) [0] [1] rfl rfl (by decide) (by decide) (z_runV E B (As := [.int 0, .int 0, .int 0]) (rest := []) [0] rfl (by decide) mv_X9_chooseFrom t_1080 0 (ci := 7) rfl rfl rfl (c_X9_chooseFrom_125 l G _ a0 a1 a2) rfl rfl ⟨Nat.le_of_ble_eq_true rfl, Nat.le_of_ble_eq_true rfl⟩ rfl hl.1 rfl (Nat.le_of_ble_eq_true rfl) dX9_choose_51 ⟨(Nat.le_of_ble_eq_true rfl), (Nat.le_of_ble_eq_true rfl)⟩) (fun r t H locs hp hB J => ?_)
  have hq := hB
  have B := J _ hq
  have B : zB G A s.heap [zi G a1 16 (fun _ => 0), zo a0 7 [.ref a1, .ref a2, .int 1, .int 0]] _ _ := B
  have hp := hp.symm
  subst hp
  refine lv_if_eq (tgt := 58) E.x E.b dX9_choose_54 (by decide) (fun c => absurd c (by decide +kernel)) (fun _ => ?_)
  refine W.widen (k := 0) (n := 0) (Nat.le_of_ble_eq_true rfl) (Nat.le_of_ble_eq_true rfl) ?_
  exact z_vret E hr hlocks B trivial (fun t ht => z_q B [1, 0] (by decide) rfl ht) dX9_choose_57
set_option maxHeartbeats 4000000 in
set_option maxRecDepth 100000 in
theorem c_X11_test_127 (l : Launch) (G : zGT) (sz : Nat) (a0 a1 a2 a3 a4 a5 a6 a7 a8 a9 a10 a11 a12 a13 a14 a15 a16 : Nat) (p0 : Int32) : Met l yX11_test (.code yX11_test cX11_test 2 (some .int) :: zT) ({ frames := 2, cells := 0, slots := 0, locals := 115 }) (va_Pc [.ref a0, .int p0] (zPc G [zo a0 9 [.ref a4, .ref a5, .ref a6, .ref a2, .ref a7, .ref a8, .ref a9, .ref a10, .ref a11, .ref a1, .ref a12, .ref a13, .ref a14, .null, .int 0, .int (-1)], zo a1 7 [.ref a3, .ref a15, .int 0, .int 0], zo a2 0 [.ref a16, .int 0], zi G a3 16 (fun _ => 0)] sz)) ((fun A => va_Qi (fun (r : Int32) (_ : Unit) => (p0.toInt ≤ (-2) ∧ r = (-1)) ∨ (0 ≤ p0.toInt ∧ r = (-1)) ∨ (p0.toInt = (-1) ∧ r = 0)) (fun (_ : Unit) t => zQ G [] A t) A) (va_A [zo a0 9 [.ref a4, .ref a5, .ref a6, .ref a2, .ref a7, .ref a8, .ref a9, .ref a10, .ref a11, .ref a1, .ref a12, .ref a13, .ref a14, .null, .int 0, .int (-1)], zo a1 7 [.ref a3, .ref a15, .int 0, .int 0], zo a2 0 [.ref a16, .int 0], zi G a3 16 (fun _ => 0)] sz)) 0 0 (va_A [zo a0 9 [.ref a4, .ref a5, .ref a6, .ref a2, .ref a7, .ref a8, .ref a9, .ref a10, .ref a11, .ref a1, .ref a12, .ref a13, .ref a14, .null, .int 0, .int (-1)], zo a1 7 [.ref a3, .ref a15, .int 0, .int 0], zo a2 0 [.ref a16, .int 0], zi G a3 16 (fun _ => 0)] sz) := by
  refine z_start (y := yX11_test) (bytes := cX11_test) (maxL := 2) (ret := (some .int)) (av := [.ref a0, .int p0]) (QA := (fun A => va_Qi (fun (r : Int32) (_ : Unit) => (p0.toInt ≤ (-2) ∧ r = (-1)) ∨ (0 ≤ p0.toInt ∧ r = (-1)) ∨ (p0.toInt = (-1) ∧ r = 0)) (fun (_ : Unit) t => zQ G [] A t) A)) (by decide) ⟨Nat.le_of_ble_eq_true rfl, trivial⟩ ?_
  intro p e s m below meth c A ls E B hr hlocks hin hl
  have hl : lv_has ls 2 [(0, .ref a0), (1, .int p0)] := hl
  have B : zB G A s.heap [zo a0 9 [.ref a4, .ref a5, .ref a6, .ref a2, .ref a7, .ref a8, .ref a9, .ref a10, .ref a11, .ref a1, .ref a12, .ref a13, .ref a14, .null, .int 0, .int (-1)], zo a1 7 [.ref a3, .ref a15, .int 0, .int 0], zo a2 0 [.ref a16, .int 0], zi G a3 16 (fun _ => 0)] s.heap [] := B
  refine lv_aload_n E.x E.b dX11_test_0 rfl (lv_at hl 0 rfl) ?_
  refine z_get E B z_inX11 (ci := 9) rfl 9 (by decide) t_378 0 rfl rfl dX11_test_1 ?_
  refine lv_aload_n E.x E.b dX11_test_4 rfl (lv_at hl 0 rfl) ?_
  refine z_get E B z_inX11 (ci := 9) rfl 3 (by decide) t_372 0 rfl rfl dX11_test_5 ?_
  refine lv_aload_n E.x E.b dX11_test_8 rfl (lv_at hl 0 rfl) ?_
  refine z_get E B z_inX11 (ci := 9) rfl 14 (by decide) t_383 0 rfl rfl dX11_test_9 ?_
  refine z_callv E B (wc := [zo a1 7 [.ref a3, .ref a15, .int 0, .int 0], zo a2 0 [.ref a16, .int 0], zi G a3 16 (fun _ => 0)]) (wr := [zo a0 9 [.ref a4, .ref a5, .ref a6, .ref a2, .ref a7, .ref a8, .ref a9, .ref a10, .ref a11, .ref a1, .ref a12, .ref a13, .ref a14, .null, .int 0, .int (-1)]]) [1, 2, 3] [0] rfl rfl (by decide) (by decide) (z_runV E B (As := [.ref a2, .int 0]) (rest := []) [1, 2, 3] rfl (by decide) mv_X9_look t_1070 0 (ci := 7) rfl rfl rfl (c_X9_look_124 l G _ a1 a2 a3 a15 a16) rfl rfl ⟨Nat.le_of_ble_eq_true rfl, Nat.le_of_ble_eq_true rfl⟩ rfl hl.1 rfl (Nat.le_of_ble_eq_true rfl) dX11_test_12 ⟨(Nat.le_of_ble_eq_true rfl), (Nat.le_of_ble_eq_true rfl)⟩) (fun  t H locs hp hB J => ?_)
  have hq := hB
  have B := J _ hq
  have B : zB G A s.heap [zo a0 9 [.ref a4, .ref a5, .ref a6, .ref a2, .ref a7, .ref a8, .ref a9, .ref a10, .ref a11, .ref a1, .ref a12, .ref a13, .ref a14, .null, .int 0, .int (-1)], zo a1 7 [.ref a3, .ref a15, .int 1, .int 0], zo a2 0 [.ref a16, .int 0], zi G a3 16 (fun _ => 0)] _ _ := B
  refine lv_aload_n E.x E.b dX11_test_15 rfl (lv_at hl 0 rfl) ?_
  refine z_get E B z_inX11 (ci := 9) rfl 9 (by decide) t_378 0 rfl rfl dX11_test_16 ?_
  refine z_callv E B (wc := [zo a1 7 [.ref a3, .ref a15, .int 1, .int 0], zi G a3 16 (fun _ => 0)]) (wr := [zo a0 9 [.ref a4, .ref a5, .ref a6, .ref a2, .ref a7, .ref a8, .ref a9, .ref a10, .ref a11, .ref a1, .ref a12, .ref a13, .ref a14, .null, .int 0, .int (-1)], zo a2 0 [.ref a16, .int 0]]) [1, 3] [0, 2] rfl rfl (by decide) (by decide) (z_runV E B (As := []) (rest := []) [1, 3] rfl (by decide) mv_X9_choose t_1076 0 (ci := 7) rfl rfl rfl (c_X9_choose_126 l G _ a1 a3 a15) rfl rfl ⟨Nat.le_of_ble_eq_true rfl, Nat.le_of_ble_eq_true rfl⟩ rfl hl.1 rfl (Nat.le_of_ble_eq_true rfl) dX11_test_19 ⟨(Nat.le_of_ble_eq_true rfl), (Nat.le_of_ble_eq_true rfl)⟩) (fun  t H locs hp hB J => ?_)
  have hq := hB
  have B := J _ hq
  have B : zB G A s.heap [zo a0 9 [.ref a4, .ref a5, .ref a6, .ref a2, .ref a7, .ref a8, .ref a9, .ref a10, .ref a11, .ref a1, .ref a12, .ref a13, .ref a14, .null, .int 0, .int (-1)], zo a2 0 [.ref a16, .int 0], zo a1 7 [.ref a3, .ref a15, .int 1, .int 0], zi G a3 16 (fun _ => 0)] _ _ := B
  refine lv_iload_n E.x E.b dX11_test_22 rfl (lv_at hl 1 rfl) ?_
  refine lv_iconst (v := (-1)) E.x E.b dX11_test_23 (by decide) ?_
  refine lv_icmp_ne (tgt := 35) E.x E.b dX11_test_24 (by decide) (fun c_1 => ?_) (fun c_1 => ?_)
  · have c_1f : ¬ p0.toInt = (-1) := zi_ne c_1
    refine lv_iload_n E.x E.b dX11_test_35 rfl (lv_at hl 1 rfl) ?_
    refine lv_if_lt (tgt := 62) E.x E.b dX11_test_36 (by decide) (fun c_2 => ?_) (fun c_2 => ?_)
    · have c_2f : p0.toInt < 0 := zi_lt c_2
      refine lv_iconst (v := (-1)) E.x E.b dX11_test_62 (by decide) ?_
      refine W.widen (k := 0) (n := 0) (Nat.le_of_ble_eq_true rfl) (Nat.le_of_ble_eq_true rfl) ?_
      exact z_iret E hr hlocks B (v := (-1)) (Or.inl ⟨(by first | decide | omega), rfl⟩) (fun t ht => z_q B [] (by decide) rfl ht) dX11_test_63
    · have c_2f : 0 ≤ p0.toInt := zi_nlt c_2
      refine lv_iload_n E.x E.b dX11_test_39 rfl (lv_at hl 1 rfl) ?_
      refine lv_aload_n E.x E.b dX11_test_40 rfl (lv_at hl 0 rfl) ?_
      refine z_get E B z_inX11 (ci := 9) rfl 9 (by decide) t_378 0 rfl rfl dX11_test_41 ?_
      refine z_get E B z_inX9 (ci := 7) rfl 3 (by decide) t_312 2 rfl rfl dX11_test_44 ?_
      refine lv_icmp_ge (tgt := 62) E.x E.b dX11_test_47 (by decide) (fun c_3 => ?_) (fun c_3 => ?_)
      · have c_3f : 0 ≤ p0.toInt := zi_le c_3
        refine lv_iconst (v := (-1)) E.x E.b dX11_test_62 (by decide) ?_
        refine W.widen (k := 0) (n := 0) (Nat.le_of_ble_eq_true rfl) (Nat.le_of_ble_eq_true rfl) ?_
        exact z_iret E hr hlocks B (v := (-1)) (Or.inr (Or.inl ⟨(by first | decide | omega), rfl⟩)) (fun t ht => z_q B [] (by decide) rfl ht) dX11_test_63
      · have c_3f : p0.toInt < 0 := zi_nle c_3
        exfalso; omega
  · have c_1f : p0.toInt = (-1) := zi_eq c_1
    obtain rfl := zi_pt (x := p0) (-1) (by show p0.toInt = (-1); omega)
    refine lv_aload_n E.x E.b dX11_test_27 rfl (lv_at hl 0 rfl) ?_
    refine z_get E B z_inX11 (ci := 9) rfl 9 (by decide) t_378 0 rfl rfl dX11_test_28 ?_
    refine z_get E B z_inX9 (ci := 7) rfl 3 (by decide) t_312 2 rfl rfl dX11_test_31 ?_
    refine W.widen (k := 0) (n := 0) (Nat.le_of_ble_eq_true rfl) (Nat.le_of_ble_eq_true rfl) ?_
    exact z_iret E hr hlocks B (v := 0) (Or.inr (Or.inr (⟨(by first | decide | omega), rfl⟩))) (fun t ht => z_q B [] (by decide) rfl ht) dX11_test_34
set_option maxHeartbeats 4000000 in
set_option maxRecDepth 100000 in
theorem c_X11_isSlot_128 (l : Launch) (G : zGT) (sz : Nat) (p0 : Int32) : Met l yX11_isSlot (.code yX11_isSlot cX11_isSlot 1 (some .boolean) :: zT) ({ frames := 0, cells := 0, slots := 0, locals := 64 }) (va_Pc [.int p0] (zPc G [] sz)) ((fun A => va_Qi (fun (r : Int32) (_ : Unit) => (p0.toInt ≤ (-1) ∧ r = 0) ∨ (3 ≤ p0.toInt ∧ r = 0) ∨ (0 ≤ p0.toInt ∧ p0.toInt ≤ 2 ∧ r = 1)) (fun (_ : Unit) t => zQ G [] A t) A) (va_A [] sz)) 0 0 (va_A [] sz) := by
  refine z_start (y := yX11_isSlot) (bytes := cX11_isSlot) (maxL := 1) (ret := (some .boolean)) (av := [.int p0]) (QA := (fun A => va_Qi (fun (r : Int32) (_ : Unit) => (p0.toInt ≤ (-1) ∧ r = 0) ∨ (3 ≤ p0.toInt ∧ r = 0) ∨ (0 ≤ p0.toInt ∧ p0.toInt ≤ 2 ∧ r = 1)) (fun (_ : Unit) t => zQ G [] A t) A)) (by decide) ⟨Nat.le_of_ble_eq_true rfl, trivial⟩ ?_
  intro p e s m below meth c A ls E B hr hlocks hin hl
  have hl : lv_has ls 1 [(0, .int p0)] := hl
  have B : zB G A s.heap [] s.heap [] := B
  refine lv_iload_n E.x E.b dX11_isSlot_0 rfl (lv_at hl 0 rfl) ?_
  refine lv_if_lt (tgt := 13) E.x E.b dX11_isSlot_1 (by decide) (fun c_1 => ?_) (fun c_1 => ?_)
  · have c_1f : p0.toInt < 0 := zi_lt c_1
    refine lv_iconst (v := 0) E.x E.b dX11_isSlot_13 (by decide) ?_
    refine W.widen (k := 0) (n := 0) (Nat.le_of_ble_eq_true rfl) (Nat.le_of_ble_eq_true rfl) ?_
    exact z_zret E hr hlocks B (v := 0) rfl (Or.inl ⟨(by first | decide | omega), rfl⟩) (fun t ht => z_q B [] (by decide) rfl ht) dX11_isSlot_14
  · have c_1f : 0 ≤ p0.toInt := zi_nlt c_1
    refine lv_iload_n E.x E.b dX11_isSlot_4 rfl (lv_at hl 0 rfl) ?_
    refine lv_iconst (v := 3) E.x E.b dX11_isSlot_5 (by decide) ?_
    refine lv_icmp_ge (tgt := 13) E.x E.b dX11_isSlot_6 (by decide) (fun c_2 => ?_) (fun c_2 => ?_)
    · have c_2f : 3 ≤ p0.toInt := zi_le c_2
      refine lv_iconst (v := 0) E.x E.b dX11_isSlot_13 (by decide) ?_
      refine W.widen (k := 0) (n := 0) (Nat.le_of_ble_eq_true rfl) (Nat.le_of_ble_eq_true rfl) ?_
      exact z_zret E hr hlocks B (v := 0) rfl (Or.inr (Or.inl ⟨(by first | decide | omega), rfl⟩)) (fun t ht => z_q B [] (by decide) rfl ht) dX11_isSlot_14
    · have c_2f : p0.toInt < 3 := zi_nle c_2
      refine lv_iconst (v := 1) E.x E.b dX11_isSlot_9 (by decide) ?_
      refine lv_goto (tgt := 14) E.x E.b dX11_isSlot_10 (by decide) ?_
      refine W.widen (k := 0) (n := 0) (Nat.le_of_ble_eq_true rfl) (Nat.le_of_ble_eq_true rfl) ?_
      exact z_zret E hr hlocks B (v := 1) rfl (Or.inr (Or.inr (⟨(by first | decide | omega), (by first | decide | omega), rfl⟩))) (fun t ht => z_q B [] (by decide) rfl ht) dX11_isSlot_14
set_option maxHeartbeats 4000000 in
set_option maxRecDepth 100000 in
theorem c_X11_holds_129 (l : Launch) (G : zGT) (sz : Nat) (a0 a1 a2 a3 a4 a5 a6 a7 a8 a9 a10 a11 a12 a13 : Nat) (p0 : Int32) : Met l yX11_holds (.code yX11_holds cX11_holds 2 (some .boolean) :: zT) ({ frames := 1, cells := 0, slots := 0, locals := 84 }) (va_Pc [.ref a0, .int p0] (zPc G [zo a0 9 [.ref a2, .ref a3, .ref a4, .ref a5, .ref a6, .ref a7, .ref a1, .ref a8, .ref a9, .ref a10, .ref a11, .ref a12, .ref a13, .null, .int 0, .int (-1)], zz G a1 3 (fun _ => 0)] sz)) ((fun A => va_Qi (fun (r : Int32) (_ : Unit) => r = 0) (fun (_ : Unit) t => zQ G [zo a0 9 [.ref a2, .ref a3, .ref a4, .ref a5, .ref a6, .ref a7, .ref a1, .ref a8, .ref a9, .ref a10, .ref a11, .ref a12, .ref a13, .null, .int 0, .int (-1)], zz G a1 3 (fun _ => 0)] A t) A) (va_A [zo a0 9 [.ref a2, .ref a3, .ref a4, .ref a5, .ref a6, .ref a7, .ref a1, .ref a8, .ref a9, .ref a10, .ref a11, .ref a12, .ref a13, .null, .int 0, .int (-1)], zz G a1 3 (fun _ => 0)] sz)) 0 0 (va_A [zo a0 9 [.ref a2, .ref a3, .ref a4, .ref a5, .ref a6, .ref a7, .ref a1, .ref a8, .ref a9, .ref a10, .ref a11, .ref a12, .ref a13, .null, .int 0, .int (-1)], zz G a1 3 (fun _ => 0)] sz) := by
  refine z_start (y := yX11_holds) (bytes := cX11_holds) (maxL := 2) (ret := (some .boolean)) (av := [.ref a0, .int p0]) (QA := (fun A => va_Qi (fun (r : Int32) (_ : Unit) => r = 0) (fun (_ : Unit) t => zQ G [zo a0 9 [.ref a2, .ref a3, .ref a4, .ref a5, .ref a6, .ref a7, .ref a1, .ref a8, .ref a9, .ref a10, .ref a11, .ref a12, .ref a13, .null, .int 0, .int (-1)], zz G a1 3 (fun _ => 0)] A t) A)) (by decide) ⟨Nat.le_of_ble_eq_true rfl, trivial⟩ ?_
  intro p e s m below meth c A ls E B hr hlocks hin hl
  have hl : lv_has ls 2 [(0, .ref a0), (1, .int p0)] := hl
  have B : zB G A s.heap [zo a0 9 [.ref a2, .ref a3, .ref a4, .ref a5, .ref a6, .ref a7, .ref a1, .ref a8, .ref a9, .ref a10, .ref a11, .ref a12, .ref a13, .null, .int 0, .int (-1)], zz G a1 3 (fun _ => 0)] s.heap [] := B
  refine lv_iload_n E.x E.b dX11_holds_0 rfl (lv_at hl 1 rfl) ?_
  refine z_calli E B (wc := []) (wr := [zo a0 9 [.ref a2, .ref a3, .ref a4, .ref a5, .ref a6, .ref a7, .ref a1, .ref a8, .ref a9, .ref a10, .ref a11, .ref a12, .ref a13, .null, .int 0, .int (-1)], zz G a1 3 (fun _ => 0)]) [] [0, 1] rfl rfl (by decide) (by decide) (z_runS E B (As := [.int p0]) (rest := []) [] rfl (by decide) ms_X11_isSlot t_953 (c_X11_isSlot_128 l G _ p0) rfl rfl ⟨Nat.le_of_ble_eq_true rfl, Nat.le_of_ble_eq_true rfl⟩ rfl hl.1 rfl (Nat.le_of_ble_eq_true rfl) dX11_holds_1 ⟨(Nat.le_of_ble_eq_true rfl), (Nat.le_of_ble_eq_true rfl)⟩) (fun r t H locs hp hB J => ?_)
  have hq := hB
  have B := J _ hq
  have B : zB G A s.heap [zo a0 9 [.ref a2, .ref a3, .ref a4, .ref a5, .ref a6, .ref a7, .ref a1, .ref a8, .ref a9, .ref a10, .ref a11, .ref a12, .ref a13, .null, .int 0, .int (-1)], zz G a1 3 (fun _ => 0)] _ _ := B
  rcases hp with ⟨c_1, rfl⟩ | ⟨c_2, rfl⟩ | ⟨c_3, c_4, rfl⟩
  · skip
    refine lv_if_eq (tgt := 20) E.x E.b dX11_holds_4 (by decide) (fun _ => ?_) (fun c => absurd (by decide +kernel) c)
    refine lv_iconst (v := 0) E.x E.b dX11_holds_20 (by decide) ?_
    refine W.widen (k := 0) (n := 0) (Nat.le_of_ble_eq_true rfl) (Nat.le_of_ble_eq_true rfl) ?_
    exact z_zret E hr hlocks B (v := 0) rfl rfl (fun t ht => z_q B [0, 1] (by decide) rfl ht) dX11_holds_21
  · skip
    refine lv_if_eq (tgt := 20) E.x E.b dX11_holds_4 (by decide) (fun _ => ?_) (fun c => absurd (by decide +kernel) c)
    refine lv_iconst (v := 0) E.x E.b dX11_holds_20 (by decide) ?_
    refine W.widen (k := 0) (n := 0) (Nat.le_of_ble_eq_true rfl) (Nat.le_of_ble_eq_true rfl) ?_
    exact z_zret E hr hlocks B (v := 0) rfl rfl (fun t ht => z_q B [0, 1] (by decide) rfl ht) dX11_holds_21
  · skip
    refine lv_if_eq (tgt := 20) E.x E.b dX11_holds_4 (by decide) (fun c => absurd c (by decide +kernel)) (fun _ => ?_)
    refine lv_aload_n E.x E.b dX11_holds_7 rfl (lv_at hl 0 rfl) ?_
    refine z_get E B z_inX11 (ci := 9) rfl 6 (by decide) t_375 0 rfl rfl dX11_holds_8 ?_
    refine lv_iload_n E.x E.b dX11_holds_11 rfl (lv_at hl 1 rfl) ?_
    by_cases e_5 : p0 = 0
    · subst e_5
      refine z_zald E B 1 rfl (show ¬ ((0 : Int32) < 0 ∨ 3 ≤ (0 : Int32).toNatClampNeg) by decide +kernel) dX11_holds_12 (z_topi 0 rfl ?_)
      refine lv_if_eq (tgt := 20) E.x E.b dX11_holds_13 (by decide) (fun _ => ?_) (fun c => absurd (by decide +kernel) c)
      refine lv_iconst (v := 0) E.x E.b dX11_holds_20 (by decide) ?_
      refine W.widen (k := 0) (n := 0) (Nat.le_of_ble_eq_true rfl) (Nat.le_of_ble_eq_true rfl) ?_
      exact z_zret E hr hlocks B (v := 0) rfl rfl (fun t ht => z_q B [0, 1] (by decide) rfl ht) dX11_holds_21
    · have e_5m : ¬ p0.toInt = 0 := zi_ne e_5
      by_cases e_6 : p0 = 1
      · subst e_6
        refine z_zald E B 1 rfl (show ¬ ((1 : Int32) < 0 ∨ 3 ≤ (1 : Int32).toNatClampNeg) by decide +kernel) dX11_holds_12 (z_topi 0 rfl ?_)
        refine lv_if_eq (tgt := 20) E.x E.b dX11_holds_13 (by decide) (fun _ => ?_) (fun c => absurd (by decide +kernel) c)
        refine lv_iconst (v := 0) E.x E.b dX11_holds_20 (by decide) ?_
        refine W.widen (k := 0) (n := 0) (Nat.le_of_ble_eq_true rfl) (Nat.le_of_ble_eq_true rfl) ?_
        exact z_zret E hr hlocks B (v := 0) rfl rfl (fun t ht => z_q B [0, 1] (by decide) rfl ht) dX11_holds_21
      · have e_6m : ¬ p0.toInt = 1 := zi_ne e_6
        by_cases e_7 : p0 = 2
        · subst e_7
          refine z_zald E B 1 rfl (show ¬ ((2 : Int32) < 0 ∨ 3 ≤ (2 : Int32).toNatClampNeg) by decide +kernel) dX11_holds_12 (z_topi 0 rfl ?_)
          refine lv_if_eq (tgt := 20) E.x E.b dX11_holds_13 (by decide) (fun _ => ?_) (fun c => absurd (by decide +kernel) c)
          refine lv_iconst (v := 0) E.x E.b dX11_holds_20 (by decide) ?_
          refine W.widen (k := 0) (n := 0) (Nat.le_of_ble_eq_true rfl) (Nat.le_of_ble_eq_true rfl) ?_
          exact z_zret E hr hlocks B (v := 0) rfl rfl (fun t ht => z_q B [0, 1] (by decide) rfl ht) dX11_holds_21
        · exfalso
          have e_7n := zi_ne e_7
          have e_7m : ¬ p0.toInt = 2 := e_7n
          omega
set_option maxHeartbeats 4000000 in
set_option maxRecDepth 100000 in
theorem c_X11_like_130 (l : Launch) (G : zGT) (sz : Nat) (a0 a1 a2 a3 a4 a5 a6 a7 a8 a9 a10 a11 a12 a13 : Nat) (p0 : Int32) : Met l yX11_like (.code yX11_like cX11_like 4 (some .int) :: zT) ({ frames := 2, cells := 0, slots := 0, locals := 105 }) (va_Pc [.ref a0, .int p0] (zPc G [zo a0 9 [.ref a2, .ref a3, .ref a4, .ref a5, .ref a6, .ref a7, .ref a1, .ref a8, .ref a9, .ref a10, .ref a11, .ref a12, .ref a13, .null, .int 0, .int (-1)], zz G a1 3 (fun _ => 0)] sz)) ((fun A => va_Qi (fun (r : Int32) (_ : Unit) => r = (-1)) (fun (_ : Unit) t => zQ G [] A t) A) (va_A [zo a0 9 [.ref a2, .ref a3, .ref a4, .ref a5, .ref a6, .ref a7, .ref a1, .ref a8, .ref a9, .ref a10, .ref a11, .ref a12, .ref a13, .null, .int 0, .int (-1)], zz G a1 3 (fun _ => 0)] sz)) 0 0 (va_A [zo a0 9 [.ref a2, .ref a3, .ref a4, .ref a5, .ref a6, .ref a7, .ref a1, .ref a8, .ref a9, .ref a10, .ref a11, .ref a12, .ref a13, .null, .int 0, .int (-1)], zz G a1 3 (fun _ => 0)] sz) := by
  refine z_start (y := yX11_like) (bytes := cX11_like) (maxL := 4) (ret := (some .int)) (av := [.ref a0, .int p0]) (QA := (fun A => va_Qi (fun (r : Int32) (_ : Unit) => r = (-1)) (fun (_ : Unit) t => zQ G [] A t) A)) (by decide) ⟨Nat.le_of_ble_eq_true rfl, trivial⟩ ?_
  intro p e s m below meth c A ls E B hr hlocks hin hl
  have hl : lv_has ls 4 [(0, .ref a0), (1, .int p0)] := hl
  have B : zB G A s.heap [zo a0 9 [.ref a2, .ref a3, .ref a4, .ref a5, .ref a6, .ref a7, .ref a1, .ref a8, .ref a9, .ref a10, .ref a11, .ref a12, .ref a13, .null, .int 0, .int (-1)], zz G a1 3 (fun _ => 0)] s.heap [] := B
  refine lv_aload_n E.x E.b dX11_like_0 rfl (lv_at hl 0 rfl) ?_
  refine lv_iload_n E.x E.b dX11_like_1 rfl (lv_at hl 1 rfl) ?_
  refine z_calli E B (wc := [zo a0 9 [.ref a2, .ref a3, .ref a4, .ref a5, .ref a6, .ref a7, .ref a1, .ref a8, .ref a9, .ref a10, .ref a11, .ref a12, .ref a13, .null, .int 0, .int (-1)], zz G a1 3 (fun _ => 0)]) (wr := []) [0, 1] [] rfl rfl (by decide) (by decide) (z_runV E B (As := [.int p0]) (rest := []) [0, 1] rfl (by decide) mv_X11_holds t_960 0 (ci := 9) rfl rfl rfl (c_X11_holds_129 l G _ a0 a1 a2 a3 a4 a5 a6 a7 a8 a9 a10 a11 a12 a13 p0) rfl rfl ⟨Nat.le_of_ble_eq_true rfl, Nat.le_of_ble_eq_true rfl⟩ rfl hl.1 rfl (Nat.le_of_ble_eq_true rfl) dX11_like_2 ⟨(Nat.le_of_ble_eq_true rfl), (Nat.le_of_ble_eq_true rfl)⟩) (fun r t H locs hp hB J => ?_)
  have hq := hB
  have B := J _ hq
  have B : zB G A s.heap [zo a0 9 [.ref a2, .ref a3, .ref a4, .ref a5, .ref a6, .ref a7, .ref a1, .ref a8, .ref a9, .ref a10, .ref a11, .ref a12, .ref a13, .null, .int 0, .int (-1)], zz G a1 3 (fun _ => 0)] _ _ := B
  have hp := hp.symm
  subst hp
  refine lv_if_ne (tgt := 10) E.x E.b dX11_like_5 (by decide) (fun c => absurd (by decide +kernel) c) (fun _ => ?_)
  refine lv_iconst (v := (-1)) E.x E.b dX11_like_8 (by decide) ?_
  refine W.widen (k := 0) (n := 0) (Nat.le_of_ble_eq_true rfl) (Nat.le_of_ble_eq_true rfl) ?_
  exact z_iret E hr hlocks B (v := (-1)) rfl (fun t ht => z_q B [] (by decide) rfl ht) dX11_like_9
set_option maxHeartbeats 4000000 in
set_option maxRecDepth 100000 in
theorem c_X11_table_131 (l : Launch) (G : zGT) (sz : Nat) (a0 a1 a2 a3 a4 a5 a6 a7 a8 a9 a10 a11 a12 a13 a14 : Nat) (p0 : Int32) : Met l yX11_table (.code yX11_table cX11_table 2 (some .int) :: zT) ({ frames := 0, cells := 0, slots := 0, locals := 64 }) (va_Pc [.ref a0, .int p0] (zPc G [zo a0 9 [.ref a2, .ref a3, .ref a4, .ref a5, .ref a6, .ref a7, .ref a8, .ref a9, .ref a10, .ref a11, .ref a1, .ref a12, .ref a13, .null, .int 0, .int (-1)], zo a1 8 [.int 0, .int 0, .int 0, .int 0, .int 0, .int 0, .ref a14]] sz)) ((fun A => va_Qi (fun (r : Int32) (_ : Unit) => r = (-1)) (fun (_ : Unit) t => zQ G [] A t) A) (va_A [zo a0 9 [.ref a2, .ref a3, .ref a4, .ref a5, .ref a6, .ref a7, .ref a8, .ref a9, .ref a10, .ref a11, .ref a1, .ref a12, .ref a13, .null, .int 0, .int (-1)], zo a1 8 [.int 0, .int 0, .int 0, .int 0, .int 0, .int 0, .ref a14]] sz)) 0 0 (va_A [zo a0 9 [.ref a2, .ref a3, .ref a4, .ref a5, .ref a6, .ref a7, .ref a8, .ref a9, .ref a10, .ref a11, .ref a1, .ref a12, .ref a13, .null, .int 0, .int (-1)], zo a1 8 [.int 0, .int 0, .int 0, .int 0, .int 0, .int 0, .ref a14]] sz) := by
  refine z_start (y := yX11_table) (bytes := cX11_table) (maxL := 2) (ret := (some .int)) (av := [.ref a0, .int p0]) (QA := (fun A => va_Qi (fun (r : Int32) (_ : Unit) => r = (-1)) (fun (_ : Unit) t => zQ G [] A t) A)) (by decide) ⟨Nat.le_of_ble_eq_true rfl, trivial⟩ ?_
  intro p e s m below meth c A ls E B hr hlocks hin hl
  have hl : lv_has ls 2 [(0, .ref a0), (1, .int p0)] := hl
  have B : zB G A s.heap [zo a0 9 [.ref a2, .ref a3, .ref a4, .ref a5, .ref a6, .ref a7, .ref a8, .ref a9, .ref a10, .ref a11, .ref a1, .ref a12, .ref a13, .null, .int 0, .int (-1)], zo a1 8 [.int 0, .int 0, .int 0, .int 0, .int 0, .int 0, .ref a14]] s.heap [] := B
  refine lv_aload_n E.x E.b dX11_table_0 rfl (lv_at hl 0 rfl) ?_
  refine z_get E B z_inX11 (ci := 9) rfl 10 (by decide) t_379 0 rfl rfl dX11_table_1 ?_
  refine z_get E B z_inX10 (ci := 8) rfl 0 (by decide) t_330 1 rfl rfl dX11_table_4 ?_
  refine lv_if_ne (tgt := 12) E.x E.b dX11_table_7 (by decide) (fun c => absurd (by decide +kernel) c) (fun _ => ?_)
  refine lv_iconst (v := (-1)) E.x E.b dX11_table_10 (by decide) ?_
  refine W.widen (k := 0) (n := 0) (Nat.le_of_ble_eq_true rfl) (Nat.le_of_ble_eq_true rfl) ?_
  exact z_iret E hr hlocks B (v := (-1)) rfl (fun t ht => z_q B [] (by decide) rfl ht) dX11_table_11
set_option maxHeartbeats 4000000 in
set_option maxRecDepth 100000 in
theorem c_X11_laid_132 (l : Launch) (G : zGT) (sz : Nat) (a0 a1 a2 a3 a4 a5 a6 a7 a8 a9 a10 a11 a12 a13 a14 : Nat) (p0 : Int32) : Met l yX11_laid (.code yX11_laid cX11_laid 2 (some .int) :: zT) ({ frames := 0, cells := 0, slots := 0, locals := 64 }) (va_Pc [.ref a0, .int p0] (zPc G [zo a0 9 [.ref a2, .ref a3, .ref a4, .ref a5, .ref a6, .ref a7, .ref a8, .ref a9, .ref a10, .ref a11, .ref a1, .ref a12, .ref a13, .null, .int 0, .int (-1)], zo a1 8 [.int 0, .int 0, .int 0, .int 0, .int 0, .int 0, .ref a14]] sz)) ((fun A => va_Qi (fun (r : Int32) (_ : Unit) => r = (-1)) (fun (_ : Unit) t => zQ G [] A t) A) (va_A [zo a0 9 [.ref a2, .ref a3, .ref a4, .ref a5, .ref a6, .ref a7, .ref a8, .ref a9, .ref a10, .ref a11, .ref a1, .ref a12, .ref a13, .null, .int 0, .int (-1)], zo a1 8 [.int 0, .int 0, .int 0, .int 0, .int 0, .int 0, .ref a14]] sz)) 0 0 (va_A [zo a0 9 [.ref a2, .ref a3, .ref a4, .ref a5, .ref a6, .ref a7, .ref a8, .ref a9, .ref a10, .ref a11, .ref a1, .ref a12, .ref a13, .null, .int 0, .int (-1)], zo a1 8 [.int 0, .int 0, .int 0, .int 0, .int 0, .int 0, .ref a14]] sz) := by
  refine z_start (y := yX11_laid) (bytes := cX11_laid) (maxL := 2) (ret := (some .int)) (av := [.ref a0, .int p0]) (QA := (fun A => va_Qi (fun (r : Int32) (_ : Unit) => r = (-1)) (fun (_ : Unit) t => zQ G [] A t) A)) (by decide) ⟨Nat.le_of_ble_eq_true rfl, trivial⟩ ?_
  intro p e s m below meth c A ls E B hr hlocks hin hl
  have hl : lv_has ls 2 [(0, .ref a0), (1, .int p0)] := hl
  have B : zB G A s.heap [zo a0 9 [.ref a2, .ref a3, .ref a4, .ref a5, .ref a6, .ref a7, .ref a8, .ref a9, .ref a10, .ref a11, .ref a1, .ref a12, .ref a13, .null, .int 0, .int (-1)], zo a1 8 [.int 0, .int 0, .int 0, .int 0, .int 0, .int 0, .ref a14]] s.heap [] := B
  refine lv_aload_n E.x E.b dX11_laid_0 rfl (lv_at hl 0 rfl) ?_
  refine z_get E B z_inX11 (ci := 9) rfl 10 (by decide) t_379 0 rfl rfl dX11_laid_1 ?_
  refine z_get E B z_inX10 (ci := 8) rfl 0 (by decide) t_330 1 rfl rfl dX11_laid_4 ?_
  refine lv_if_eq (tgt := 27) E.x E.b dX11_laid_7 (by decide) (fun _ => ?_) (fun c => absurd (by decide +kernel) c)
  refine lv_iconst (v := (-1)) E.x E.b dX11_laid_27 (by decide) ?_
  refine W.widen (k := 0) (n := 0) (Nat.le_of_ble_eq_true rfl) (Nat.le_of_ble_eq_true rfl) ?_
  exact z_iret E hr hlocks B (v := (-1)) rfl (fun t ht => z_q B [] (by decide) rfl ht) dX11_laid_28
set_option maxHeartbeats 4000000 in
set_option maxRecDepth 100000 in
theorem c_X11_off_133 (l : Launch) (G : zGT) (sz : Nat) (a0 a1 a2 a3 a4 a5 a6 a7 a8 a9 a10 a11 a12 a13 : Nat) (p0 : Int32) : Met l yX11_off (.code yX11_off cX11_off 5 (some .int) :: zT) ({ frames := 2, cells := 0, slots := 0, locals := 105 }) (va_Pc [.ref a0, .int p0] (zPc G [zo a0 9 [.ref a2, .ref a3, .ref a4, .ref a5, .ref a6, .ref a7, .ref a1, .ref a8, .ref a9, .ref a10, .ref a11, .ref a12, .ref a13, .null, .int 0, .int (-1)], zz G a1 3 (fun _ => 0)] sz)) ((fun A => va_Qi (fun (r : Int32) (_ : Unit) => r = (-1)) (fun (_ : Unit) t => zQ G [] A t) A) (va_A [zo a0 9 [.ref a2, .ref a3, .ref a4, .ref a5, .ref a6, .ref a7, .ref a1, .ref a8, .ref a9, .ref a10, .ref a11, .ref a12, .ref a13, .null, .int 0, .int (-1)], zz G a1 3 (fun _ => 0)] sz)) 0 0 (va_A [zo a0 9 [.ref a2, .ref a3, .ref a4, .ref a5, .ref a6, .ref a7, .ref a1, .ref a8, .ref a9, .ref a10, .ref a11, .ref a12, .ref a13, .null, .int 0, .int (-1)], zz G a1 3 (fun _ => 0)] sz) := by
  refine z_start (y := yX11_off) (bytes := cX11_off) (maxL := 5) (ret := (some .int)) (av := [.ref a0, .int p0]) (QA := (fun A => va_Qi (fun (r : Int32) (_ : Unit) => r = (-1)) (fun (_ : Unit) t => zQ G [] A t) A)) (by decide) ⟨Nat.le_of_ble_eq_true rfl, trivial⟩ ?_
  intro p e s m below meth c A ls E B hr hlocks hin hl
  have hl : lv_has ls 5 [(0, .ref a0), (1, .int p0)] := hl
  have B : zB G A s.heap [zo a0 9 [.ref a2, .ref a3, .ref a4, .ref a5, .ref a6, .ref a7, .ref a1, .ref a8, .ref a9, .ref a10, .ref a11, .ref a12, .ref a13, .null, .int 0, .int (-1)], zz G a1 3 (fun _ => 0)] s.heap [] := B
  refine lv_aload_n E.x E.b dX11_off_0 rfl (lv_at hl 0 rfl) ?_
  refine lv_iload_n E.x E.b dX11_off_1 rfl (lv_at hl 1 rfl) ?_
  refine z_calli E B (wc := [zo a0 9 [.ref a2, .ref a3, .ref a4, .ref a5, .ref a6, .ref a7, .ref a1, .ref a8, .ref a9, .ref a10, .ref a11, .ref a12, .ref a13, .null, .int 0, .int (-1)], zz G a1 3 (fun _ => 0)]) (wr := []) [0, 1] [] rfl rfl (by decide) (by decide) (z_runV E B (As := [.int p0]) (rest := []) [0, 1] rfl (by decide) mv_X11_holds t_960 0 (ci := 9) rfl rfl rfl (c_X11_holds_129 l G _ a0 a1 a2 a3 a4 a5 a6 a7 a8 a9 a10 a11 a12 a13 p0) rfl rfl ⟨Nat.le_of_ble_eq_true rfl, Nat.le_of_ble_eq_true rfl⟩ rfl hl.1 rfl (Nat.le_of_ble_eq_true rfl) dX11_off_2 ⟨(Nat.le_of_ble_eq_true rfl), (Nat.le_of_ble_eq_true rfl)⟩) (fun r t H locs hp hB J => ?_)
  have hq := hB
  have B := J _ hq
  have B : zB G A s.heap [zo a0 9 [.ref a2, .ref a3, .ref a4, .ref a5, .ref a6, .ref a7, .ref a1, .ref a8, .ref a9, .ref a10, .ref a11, .ref a12, .ref a13, .null, .int 0, .int (-1)], zz G a1 3 (fun _ => 0)] _ _ := B
  have hp := hp.symm
  subst hp
  refine lv_if_eq (tgt := 16) E.x E.b dX11_off_5 (by decide) (fun _ => ?_) (fun c => absurd (by decide +kernel) c)
  refine lv_iconst (v := (-1)) E.x E.b dX11_off_16 (by decide) ?_
  refine W.widen (k := 0) (n := 0) (Nat.le_of_ble_eq_true rfl) (Nat.le_of_ble_eq_true rfl) ?_
  exact z_iret E hr hlocks B (v := (-1)) rfl (fun t ht => z_q B [] (by decide) rfl ht) dX11_off_17
set_option maxHeartbeats 4000000 in
set_option maxRecDepth 100000 in
theorem c_X11_hold_134 (l : Launch) (G : zGT) (sz : Nat) (a0 a1 a2 a3 a4 a5 a6 a7 a8 a9 a10 a11 a12 a13 a14 a15 a16 a17 a18 a19 a20 : Nat) (p0 : Int32) : Met l yX11_hold (.code yX11_hold cX11_hold 2 (some .boolean) :: zT) ({ frames := 2, cells := 0, slots := 0, locals := 85 }) (va_Pc [.ref a0, .int p0] (zPc G [zo a0 9 [.ref a11, .ref a12, .ref a13, .ref a3, .ref a14, .ref a1, .ref a6, .ref a15, .ref a16, .ref a17, .ref a18, .ref a19, .ref a20, .null, .int 0, .int (-1)], zc G a1 3 (va_up (va_up (va_up (fun _ => none) 0 (some a2)) 1 (some a7)) 2 (some a9)), zo a2 0 [.ref a4, .int 0], zo a3 0 [.ref a5, .int 0], zi G a4 16 (fun _ => 0), zi G a5 16 (fun _ => 0), zz G a6 3 (fun _ => 0), zo a7 0 [.ref a8, .int 0], zi G a8 16 (fun _ => 0), zo a9 0 [.ref a10, .int 0], zi G a10 16 (fun _ => 0)] sz)) ((fun A => va_Qi (fun (r : Int32) (_ : Unit) => (p0.toInt ≤ (-1) ∧ r = 0) ∨ (3 ≤ p0.toInt ∧ r = 0) ∨ (p0.toInt = 0 ∧ r = 1) ∨ (p0.toInt = 1 ∧ r = 1) ∨ (p0.toInt = 2 ∧ r = 1)) (fun (_ : Unit) t => zQ G [] A t) A) (va_A [zo a0 9 [.ref a11, .ref a12, .ref a13, .ref a3, .ref a14, .ref a1, .ref a6, .ref a15, .ref a16, .ref a17, .ref a18, .ref a19, .ref a20, .null, .int 0, .int (-1)], zc G a1 3 (va_up (va_up (va_up (fun _ => none) 0 (some a2)) 1 (some a7)) 2 (some a9)), zo a2 0 [.ref a4, .int 0], zo a3 0 [.ref a5, .int 0], zi G a4 16 (fun _ => 0), zi G a5 16 (fun _ => 0), zz G a6 3 (fun _ => 0), zo a7 0 [.ref a8, .int 0], zi G a8 16 (fun _ => 0), zo a9 0 [.ref a10, .int 0], zi G a10 16 (fun _ => 0)] sz)) 0 0 (va_A [zo a0 9 [.ref a11, .ref a12, .ref a13, .ref a3, .ref a14, .ref a1, .ref a6, .ref a15, .ref a16, .ref a17, .ref a18, .ref a19, .ref a20, .null, .int 0, .int (-1)], zc G a1 3 (va_up (va_up (va_up (fun _ => none) 0 (some a2)) 1 (some a7)) 2 (some a9)), zo a2 0 [.ref a4, .int 0], zo a3 0 [.ref a5, .int 0], zi G a4 16 (fun _ => 0), zi G a5 16 (fun _ => 0), zz G a6 3 (fun _ => 0), zo a7 0 [.ref a8, .int 0], zi G a8 16 (fun _ => 0), zo a9 0 [.ref a10, .int 0], zi G a10 16 (fun _ => 0)] sz) := by
  refine z_start (y := yX11_hold) (bytes := cX11_hold) (maxL := 2) (ret := (some .boolean)) (av := [.ref a0, .int p0]) (QA := (fun A => va_Qi (fun (r : Int32) (_ : Unit) => (p0.toInt ≤ (-1) ∧ r = 0) ∨ (3 ≤ p0.toInt ∧ r = 0) ∨ (p0.toInt = 0 ∧ r = 1) ∨ (p0.toInt = 1 ∧ r = 1) ∨ (p0.toInt = 2 ∧ r = 1)) (fun (_ : Unit) t => zQ G [] A t) A)) (by decide) ⟨Nat.le_of_ble_eq_true rfl, trivial⟩ ?_
  intro p e s m below meth c A ls E B hr hlocks hin hl
  have hl : lv_has ls 2 [(0, .ref a0), (1, .int p0)] := hl
  have B : zB G A s.heap [zo a0 9 [.ref a11, .ref a12, .ref a13, .ref a3, .ref a14, .ref a1, .ref a6, .ref a15, .ref a16, .ref a17, .ref a18, .ref a19, .ref a20, .null, .int 0, .int (-1)], zc G a1 3 (va_up (va_up (va_up (fun _ => none) 0 (some a2)) 1 (some a7)) 2 (some a9)), zo a2 0 [.ref a4, .int 0], zo a3 0 [.ref a5, .int 0], zi G a4 16 (fun _ => 0), zi G a5 16 (fun _ => 0), zz G a6 3 (fun _ => 0), zo a7 0 [.ref a8, .int 0], zi G a8 16 (fun _ => 0), zo a9 0 [.ref a10, .int 0], zi G a10 16 (fun _ => 0)] s.heap [] := B
  refine lv_iload_n E.x E.b dX11_hold_0 rfl (lv_at hl 1 rfl) ?_
  refine z_calli E B (wc := []) (wr := [zo a0 9 [.ref a11, .ref a12, .ref a13, .ref a3, .ref a14, .ref a1, .ref a6, .ref a15, .ref a16, .ref a17, .ref a18, .ref a19, .ref a20, .null, .int 0, .int (-1)], zc G a1 3 (va_up (va_up (va_up (fun _ => none) 0 (some a2)) 1 (some a7)) 2 (some a9)), zo a2 0 [.ref a4, .int 0], zo a3 0 [.ref a5, .int 0], zi G a4 16 (fun _ => 0), zi G a5 16 (fun _ => 0), zz G a6 3 (fun _ => 0), zo a7 0 [.ref a8, .int 0], zi G a8 16 (fun _ => 0), zo a9 0 [.ref a10, .int 0], zi G a10 16 (fun _ => 0)]) [] [0, 1, 2, 3, 4, 5, 6, 7, 8, 9, 10] rfl rfl (by decide) (by decide) (z_runS E B (As := [.int p0]) (rest := []) [] rfl (by decide) ms_X11_isSlot t_953 (c_X11_isSlot_128 l G _ p0) rfl rfl ⟨Nat.le_of_ble_eq_true rfl, Nat.le_of_ble_eq_true rfl⟩ rfl hl.1 rfl (Nat.le_of_ble_eq_true rfl) dX11_hold_1 ⟨(Nat.le_of_ble_eq_true rfl), (Nat.le_of_ble_eq_true rfl)⟩) (fun r t H locs hp hB J => ?_)
  have hq := hB
  have B := J _ hq
  have B : zB G A s.heap [zo a0 9 [.ref a11, .ref a12, .ref a13, .ref a3, .ref a14, .ref a1, .ref a6, .ref a15, .ref a16, .ref a17, .ref a18, .ref a19, .ref a20, .null, .int 0, .int (-1)], zc G a1 3 (va_up (va_up (va_up (fun _ => none) 0 (some a2)) 1 (some a7)) 2 (some a9)), zo a2 0 [.ref a4, .int 0], zo a3 0 [.ref a5, .int 0], zi G a4 16 (fun _ => 0), zi G a5 16 (fun _ => 0), zz G a6 3 (fun _ => 0), zo a7 0 [.ref a8, .int 0], zi G a8 16 (fun _ => 0), zo a9 0 [.ref a10, .int 0], zi G a10 16 (fun _ => 0)] _ _ := B
  rcases hp with ⟨c_1, rfl⟩ | ⟨c_2, rfl⟩ | ⟨c_3, c_4, rfl⟩
  · skip
    refine lv_if_ne (tgt := 9) E.x E.b dX11_hold_4 (by decide) (fun c => absurd (by decide +kernel) c) (fun _ => ?_)
    refine lv_iconst (v := 0) E.x E.b dX11_hold_7 (by decide) ?_
    refine W.widen (k := 0) (n := 0) (Nat.le_of_ble_eq_true rfl) (Nat.le_of_ble_eq_true rfl) ?_
    exact z_zret E hr hlocks B (v := 0) rfl (Or.inl ⟨(by first | decide | omega), rfl⟩) (fun t ht => z_q B [] (by decide) rfl ht) dX11_hold_8
  · skip
    refine lv_if_ne (tgt := 9) E.x E.b dX11_hold_4 (by decide) (fun c => absurd (by decide +kernel) c) (fun _ => ?_)
    refine lv_iconst (v := 0) E.x E.b dX11_hold_7 (by decide) ?_
    refine W.widen (k := 0) (n := 0) (Nat.le_of_ble_eq_true rfl) (Nat.le_of_ble_eq_true rfl) ?_
    exact z_zret E hr hlocks B (v := 0) rfl (Or.inr (Or.inl ⟨(by first | decide | omega), rfl⟩)) (fun t ht => z_q B [] (by decide) rfl ht) dX11_hold_8
  · skip
    refine lv_if_ne (tgt := 9) E.x E.b dX11_hold_4 (by decide) (fun _ => ?_) (fun c => absurd c (by decide +kernel))
    refine lv_aload_n E.x E.b dX11_hold_9 rfl (lv_at hl 0 rfl) ?_
    refine z_get E B z_inX11 (ci := 9) rfl 5 (by decide) t_374 0 rfl rfl dX11_hold_10 ?_
    refine lv_iload_n E.x E.b dX11_hold_13 rfl (lv_at hl 1 rfl) ?_
    by_cases e_5 : p0 = 0
    · subst e_5
      refine z_aald E B 1 rfl (show ¬ ((0 : Int32) < 0 ∨ 3 ≤ (0 : Int32).toNatClampNeg) by decide +kernel) dX11_hold_14 (z_topq a2 rfl ?_)
      refine lv_aload_n E.x E.b dX11_hold_15 rfl (lv_at hl 0 rfl) ?_
      refine z_get E B z_inX11 (ci := 9) rfl 3 (by decide) t_372 0 rfl rfl dX11_hold_16 ?_
      refine z_callv E B (wc := [zo a2 0 [.ref a4, .int 0], zo a3 0 [.ref a5, .int 0], zi G a4 16 (fun _ => 0), zi G a5 16 (fun _ => 0)]) (wr := [zo a0 9 [.ref a11, .ref a12, .ref a13, .ref a3, .ref a14, .ref a1, .ref a6, .ref a15, .ref a16, .ref a17, .ref a18, .ref a19, .ref a20, .null, .int 0, .int (-1)], zc G a1 3 (va_up (va_up (va_up (fun _ => none) 0 (some a2)) 1 (some a7)) 2 (some a9)), zz G a6 3 (fun _ => 0), zo a7 0 [.ref a8, .int 0], zi G a8 16 (fun _ => 0), zo a9 0 [.ref a10, .int 0], zi G a10 16 (fun _ => 0)]) [2, 3, 4, 5] [0, 1, 6, 7, 8, 9, 10] rfl rfl (by decide) (by decide) (z_runV E B (As := [.ref a3]) (rest := []) [2, 3, 4, 5] rfl (by decide) mv_X0_copy t_734 0 (ci := 0) rfl rfl rfl (c_X0_copy_64 l G _ a2 a3 a4 a5) rfl rfl ⟨Nat.le_of_ble_eq_true rfl, Nat.le_of_ble_eq_true rfl⟩ rfl hl.1 rfl (Nat.le_of_ble_eq_true rfl) dX11_hold_19 ⟨(Nat.le_of_ble_eq_true rfl), (Nat.le_of_ble_eq_true rfl)⟩) (fun  t H locs hp hB J => ?_)
      have hq := hB
      have B := J _ hq
      have B : zB G A s.heap [zo a0 9 [.ref a11, .ref a12, .ref a13, .ref a3, .ref a14, .ref a1, .ref a6, .ref a15, .ref a16, .ref a17, .ref a18, .ref a19, .ref a20, .null, .int 0, .int (-1)], zc G a1 3 (va_up (va_up (va_up (fun _ => none) 0 (some a2)) 1 (some a7)) 2 (some a9)), zz G a6 3 (fun _ => 0), zo a7 0 [.ref a8, .int 0], zi G a8 16 (fun _ => 0), zo a9 0 [.ref a10, .int 0], zi G a10 16 (fun _ => 0), zo a2 0 [.ref a4, .int 0], zo a3 0 [.ref a5, .int 0], zi G a4 16 (fun _ => 0), zi G a5 16 (fun _ => 0)] _ _ := B
      refine lv_aload_n E.x E.b dX11_hold_22 rfl (lv_at hl 0 rfl) ?_
      refine z_get E B z_inX11 (ci := 9) rfl 6 (by decide) t_375 0 rfl rfl dX11_hold_23 ?_
      refine lv_iload_n E.x E.b dX11_hold_26 rfl (lv_at hl 1 rfl) ?_
      refine lv_iconst (v := 1) E.x E.b dX11_hold_27 (by decide) ?_
      refine z_zast E B 2 rfl (show ¬ ((0 : Int32) < 0 ∨ 3 ≤ (0 : Int32).toNatClampNeg) by decide +kernel) dX11_hold_28 (fun H locs B => ?_)
      obtain ⟨g_6, B⟩ : ∃ g_6 : Nat → Int32, zB G A s.heap [zo a0 9 [.ref a11, .ref a12, .ref a13, .ref a3, .ref a14, .ref a1, .ref a6, .ref a15, .ref a16, .ref a17, .ref a18, .ref a19, .ref a20, .null, .int 0, .int (-1)], zc G a1 3 (va_up (va_up (va_up (fun _ => none) 0 (some a2)) 1 (some a7)) 2 (some a9)), zz G a6 3 g_6, zo a7 0 [.ref a8, .int 0], zi G a8 16 (fun _ => 0), zo a9 0 [.ref a10, .int 0], zi G a10 16 (fun _ => 0), zo a2 0 [.ref a4, .int 0], zo a3 0 [.ref a5, .int 0], zi G a4 16 (fun _ => 0), zi G a5 16 (fun _ => 0)] _ _ := ⟨_, B⟩
      have B : zB G A s.heap [zo a0 9 [.ref a11, .ref a12, .ref a13, .ref a3, .ref a14, .ref a1, .ref a6, .ref a15, .ref a16, .ref a17, .ref a18, .ref a19, .ref a20, .null, .int 0, .int (-1)], zc G a1 3 (va_up (va_up (va_up (fun _ => none) 0 (some a2)) 1 (some a7)) 2 (some a9)), zz G a6 3 g_6, zo a7 0 [.ref a8, .int 0], zi G a8 16 (fun _ => 0), zo a9 0 [.ref a10, .int 0], zi G a10 16 (fun _ => 0), zo a2 0 [.ref a4, .int 0], zo a3 0 [.ref a5, .int 0], zi G a4 16 (fun _ => 0), zi G a5 16 (fun _ => 0)] _ _ := B
      refine lv_iconst (v := 1) E.x E.b dX11_hold_29 (by decide) ?_
      refine W.widen (k := 0) (n := 0) (Nat.le_of_ble_eq_true rfl) (Nat.le_of_ble_eq_true rfl) ?_
      exact z_zret E hr hlocks B (v := 1) rfl (Or.inr (Or.inr (Or.inl ⟨(by first | decide | omega), rfl⟩))) (fun t ht => z_q B [] (by decide) rfl ht) dX11_hold_30
    · have e_5m : ¬ p0.toInt = 0 := zi_ne e_5
      by_cases e_7 : p0 = 1
      · subst e_7
        refine z_aald E B 1 rfl (show ¬ ((1 : Int32) < 0 ∨ 3 ≤ (1 : Int32).toNatClampNeg) by decide +kernel) dX11_hold_14 (z_topq a7 rfl ?_)
        refine lv_aload_n E.x E.b dX11_hold_15 rfl (lv_at hl 0 rfl) ?_
        refine z_get E B z_inX11 (ci := 9) rfl 3 (by decide) t_372 0 rfl rfl dX11_hold_16 ?_
        refine z_callv E B (wc := [zo a7 0 [.ref a8, .int 0], zo a3 0 [.ref a5, .int 0], zi G a8 16 (fun _ => 0), zi G a5 16 (fun _ => 0)]) (wr := [zo a0 9 [.ref a11, .ref a12, .ref a13, .ref a3, .ref a14, .ref a1, .ref a6, .ref a15, .ref a16, .ref a17, .ref a18, .ref a19, .ref a20, .null, .int 0, .int (-1)], zc G a1 3 (va_up (va_up (va_up (fun _ => none) 0 (some a2)) 1 (some a7)) 2 (some a9)), zo a2 0 [.ref a4, .int 0], zi G a4 16 (fun _ => 0), zz G a6 3 (fun _ => 0), zo a9 0 [.ref a10, .int 0], zi G a10 16 (fun _ => 0)]) [7, 3, 8, 5] [0, 1, 2, 4, 6, 9, 10] rfl rfl (by decide) (by decide) (z_runV E B (As := [.ref a3]) (rest := []) [7, 3, 8, 5] rfl (by decide) mv_X0_copy t_734 0 (ci := 0) rfl rfl rfl (c_X0_copy_64 l G _ a7 a3 a8 a5) rfl rfl ⟨Nat.le_of_ble_eq_true rfl, Nat.le_of_ble_eq_true rfl⟩ rfl hl.1 rfl (Nat.le_of_ble_eq_true rfl) dX11_hold_19 ⟨(Nat.le_of_ble_eq_true rfl), (Nat.le_of_ble_eq_true rfl)⟩) (fun  t H locs hp hB J => ?_)
        have hq := hB
        have B := J _ hq
        have B : zB G A s.heap [zo a0 9 [.ref a11, .ref a12, .ref a13, .ref a3, .ref a14, .ref a1, .ref a6, .ref a15, .ref a16, .ref a17, .ref a18, .ref a19, .ref a20, .null, .int 0, .int (-1)], zc G a1 3 (va_up (va_up (va_up (fun _ => none) 0 (some a2)) 1 (some a7)) 2 (some a9)), zo a2 0 [.ref a4, .int 0], zi G a4 16 (fun _ => 0), zz G a6 3 (fun _ => 0), zo a9 0 [.ref a10, .int 0], zi G a10 16 (fun _ => 0), zo a7 0 [.ref a8, .int 0], zo a3 0 [.ref a5, .int 0], zi G a8 16 (fun _ => 0), zi G a5 16 (fun _ => 0)] _ _ := B
        refine lv_aload_n E.x E.b dX11_hold_22 rfl (lv_at hl 0 rfl) ?_
        refine z_get E B z_inX11 (ci := 9) rfl 6 (by decide) t_375 0 rfl rfl dX11_hold_23 ?_
        refine lv_iload_n E.x E.b dX11_hold_26 rfl (lv_at hl 1 rfl) ?_
        refine lv_iconst (v := 1) E.x E.b dX11_hold_27 (by decide) ?_
        refine z_zast E B 4 rfl (show ¬ ((1 : Int32) < 0 ∨ 3 ≤ (1 : Int32).toNatClampNeg) by decide +kernel) dX11_hold_28 (fun H locs B => ?_)
        obtain ⟨g_8, B⟩ : ∃ g_8 : Nat → Int32, zB G A s.heap [zo a0 9 [.ref a11, .ref a12, .ref a13, .ref a3, .ref a14, .ref a1, .ref a6, .ref a15, .ref a16, .ref a17, .ref a18, .ref a19, .ref a20, .null, .int 0, .int (-1)], zc G a1 3 (va_up (va_up (va_up (fun _ => none) 0 (some a2)) 1 (some a7)) 2 (some a9)), zo a2 0 [.ref a4, .int 0], zi G a4 16 (fun _ => 0), zz G a6 3 g_8, zo a9 0 [.ref a10, .int 0], zi G a10 16 (fun _ => 0), zo a7 0 [.ref a8, .int 0], zo a3 0 [.ref a5, .int 0], zi G a8 16 (fun _ => 0), zi G a5 16 (fun _ => 0)] _ _ := ⟨_, B⟩
        have B : zB G A s.heap [zo a0 9 [.ref a11, .ref a12, .ref a13, .ref a3, .ref a14, .ref a1, .ref a6, .ref a15, .ref a16, .ref a17, .ref a18, .ref a19, .ref a20, .null, .int 0, .int (-1)], zc G a1 3 (va_up (va_up (va_up (fun _ => none) 0 (some a2)) 1 (some a7)) 2 (some a9)), zo a2 0 [.ref a4, .int 0], zi G a4 16 (fun _ => 0), zz G a6 3 g_8, zo a9 0 [.ref a10, .int 0], zi G a10 16 (fun _ => 0), zo a7 0 [.ref a8, .int 0], zo a3 0 [.ref a5, .int 0], zi G a8 16 (fun _ => 0), zi G a5 16 (fun _ => 0)] _ _ := B
        refine lv_iconst (v := 1) E.x E.b dX11_hold_29 (by decide) ?_
        refine W.widen (k := 0) (n := 0) (Nat.le_of_ble_eq_true rfl) (Nat.le_of_ble_eq_true rfl) ?_
        exact z_zret E hr hlocks B (v := 1) rfl (Or.inr (Or.inr (Or.inr (Or.inl ⟨(by first | decide | omega), rfl⟩)))) (fun t ht => z_q B [] (by decide) rfl ht) dX11_hold_30
      · have e_7m : ¬ p0.toInt = 1 := zi_ne e_7
        by_cases e_9 : p0 = 2
        · subst e_9
          refine z_aald E B 1 rfl (show ¬ ((2 : Int32) < 0 ∨ 3 ≤ (2 : Int32).toNatClampNeg) by decide +kernel) dX11_hold_14 (z_topq a9 rfl ?_)
          refine lv_aload_n E.x E.b dX11_hold_15 rfl (lv_at hl 0 rfl) ?_
          refine z_get E B z_inX11 (ci := 9) rfl 3 (by decide) t_372 0 rfl rfl dX11_hold_16 ?_
          refine z_callv E B (wc := [zo a9 0 [.ref a10, .int 0], zo a3 0 [.ref a5, .int 0], zi G a10 16 (fun _ => 0), zi G a5 16 (fun _ => 0)]) (wr := [zo a0 9 [.ref a11, .ref a12, .ref a13, .ref a3, .ref a14, .ref a1, .ref a6, .ref a15, .ref a16, .ref a17, .ref a18, .ref a19, .ref a20, .null, .int 0, .int (-1)], zc G a1 3 (va_up (va_up (va_up (fun _ => none) 0 (some a2)) 1 (some a7)) 2 (some a9)), zo a2 0 [.ref a4, .int 0], zi G a4 16 (fun _ => 0), zz G a6 3 (fun _ => 0), zo a7 0 [.ref a8, .int 0], zi G a8 16 (fun _ => 0)]) [9, 3, 10, 5] [0, 1, 2, 4, 6, 7, 8] rfl rfl (by decide) (by decide) (z_runV E B (As := [.ref a3]) (rest := []) [9, 3, 10, 5] rfl (by decide) mv_X0_copy t_734 0 (ci := 0) rfl rfl rfl (c_X0_copy_64 l G _ a9 a3 a10 a5) rfl rfl ⟨Nat.le_of_ble_eq_true rfl, Nat.le_of_ble_eq_true rfl⟩ rfl hl.1 rfl (Nat.le_of_ble_eq_true rfl) dX11_hold_19 ⟨(Nat.le_of_ble_eq_true rfl), (Nat.le_of_ble_eq_true rfl)⟩) (fun  t H locs hp hB J => ?_)
          have hq := hB
          have B := J _ hq
          have B : zB G A s.heap [zo a0 9 [.ref a11, .ref a12, .ref a13, .ref a3, .ref a14, .ref a1, .ref a6, .ref a15, .ref a16, .ref a17, .ref a18, .ref a19, .ref a20, .null, .int 0, .int (-1)], zc G a1 3 (va_up (va_up (va_up (fun _ => none) 0 (some a2)) 1 (some a7)) 2 (some a9)), zo a2 0 [.ref a4, .int 0], zi G a4 16 (fun _ => 0), zz G a6 3 (fun _ => 0), zo a7 0 [.ref a8, .int 0], zi G a8 16 (fun _ => 0), zo a9 0 [.ref a10, .int 0], zo a3 0 [.ref a5, .int 0], zi G a10 16 (fun _ => 0), zi G a5 16 (fun _ => 0)] _ _ := B
          refine lv_aload_n E.x E.b dX11_hold_22 rfl (lv_at hl 0 rfl) ?_
          refine z_get E B z_inX11 (ci := 9) rfl 6 (by decide) t_375 0 rfl rfl dX11_hold_23 ?_
          refine lv_iload_n E.x E.b dX11_hold_26 rfl (lv_at hl 1 rfl) ?_
          refine lv_iconst (v := 1) E.x E.b dX11_hold_27 (by decide) ?_
          refine z_zast E B 4 rfl (show ¬ ((2 : Int32) < 0 ∨ 3 ≤ (2 : Int32).toNatClampNeg) by decide +kernel) dX11_hold_28 (fun H locs B => ?_)
          obtain ⟨g_10, B⟩ : ∃ g_10 : Nat → Int32, zB G A s.heap [zo a0 9 [.ref a11, .ref a12, .ref a13, .ref a3, .ref a14, .ref a1, .ref a6, .ref a15, .ref a16, .ref a17, .ref a18, .ref a19, .ref a20, .null, .int 0, .int (-1)], zc G a1 3 (va_up (va_up (va_up (fun _ => none) 0 (some a2)) 1 (some a7)) 2 (some a9)), zo a2 0 [.ref a4, .int 0], zi G a4 16 (fun _ => 0), zz G a6 3 g_10, zo a7 0 [.ref a8, .int 0], zi G a8 16 (fun _ => 0), zo a9 0 [.ref a10, .int 0], zo a3 0 [.ref a5, .int 0], zi G a10 16 (fun _ => 0), zi G a5 16 (fun _ => 0)] _ _ := ⟨_, B⟩
          have B : zB G A s.heap [zo a0 9 [.ref a11, .ref a12, .ref a13, .ref a3, .ref a14, .ref a1, .ref a6, .ref a15, .ref a16, .ref a17, .ref a18, .ref a19, .ref a20, .null, .int 0, .int (-1)], zc G a1 3 (va_up (va_up (va_up (fun _ => none) 0 (some a2)) 1 (some a7)) 2 (some a9)), zo a2 0 [.ref a4, .int 0], zi G a4 16 (fun _ => 0), zz G a6 3 g_10, zo a7 0 [.ref a8, .int 0], zi G a8 16 (fun _ => 0), zo a9 0 [.ref a10, .int 0], zo a3 0 [.ref a5, .int 0], zi G a10 16 (fun _ => 0), zi G a5 16 (fun _ => 0)] _ _ := B
          refine lv_iconst (v := 1) E.x E.b dX11_hold_29 (by decide) ?_
          refine W.widen (k := 0) (n := 0) (Nat.le_of_ble_eq_true rfl) (Nat.le_of_ble_eq_true rfl) ?_
          exact z_zret E hr hlocks B (v := 1) rfl (Or.inr (Or.inr (Or.inr (Or.inr (⟨(by first | decide | omega), rfl⟩))))) (fun t ht => z_q B [] (by decide) rfl ht) dX11_hold_30
        · exfalso
          have e_9n := zi_ne e_9
          have e_9m : ¬ p0.toInt = 2 := e_9n
          omega
set_option maxHeartbeats 4000000 in
set_option maxRecDepth 100000 in
theorem c_X11_restore_135 (l : Launch) (G : zGT) (sz : Nat) (a0 a1 a2 a3 a4 a5 a6 a7 a8 a9 a10 a11 a12 a13 : Nat) (p0 : Int32) : Met l yX11_restore (.code yX11_restore cX11_restore 2 (some .boolean) :: zT) ({ frames := 2, cells := 0, slots := 0, locals := 105 }) (va_Pc [.ref a0, .int p0] (zPc G [zo a0 9 [.ref a2, .ref a3, .ref a4, .ref a5, .ref a6, .ref a7, .ref a1, .ref a8, .ref a9, .ref a10, .ref a11, .ref a12, .ref a13, .null, .int 0, .int (-1)], zz G a1 3 (fun _ => 0)] sz)) ((fun A => va_Qi (fun (r : Int32) (_ : Unit) => r = 0) (fun (_ : Unit) t => zQ G [] A t) A) (va_A [zo a0 9 [.ref a2, .ref a3, .ref a4, .ref a5, .ref a6, .ref a7, .ref a1, .ref a8, .ref a9, .ref a10, .ref a11, .ref a12, .ref a13, .null, .int 0, .int (-1)], zz G a1 3 (fun _ => 0)] sz)) 0 0 (va_A [zo a0 9 [.ref a2, .ref a3, .ref a4, .ref a5, .ref a6, .ref a7, .ref a1, .ref a8, .ref a9, .ref a10, .ref a11, .ref a12, .ref a13, .null, .int 0, .int (-1)], zz G a1 3 (fun _ => 0)] sz) := by
  refine z_start (y := yX11_restore) (bytes := cX11_restore) (maxL := 2) (ret := (some .boolean)) (av := [.ref a0, .int p0]) (QA := (fun A => va_Qi (fun (r : Int32) (_ : Unit) => r = 0) (fun (_ : Unit) t => zQ G [] A t) A)) (by decide) ⟨Nat.le_of_ble_eq_true rfl, trivial⟩ ?_
  intro p e s m below meth c A ls E B hr hlocks hin hl
  have hl : lv_has ls 2 [(0, .ref a0), (1, .int p0)] := hl
  have B : zB G A s.heap [zo a0 9 [.ref a2, .ref a3, .ref a4, .ref a5, .ref a6, .ref a7, .ref a1, .ref a8, .ref a9, .ref a10, .ref a11, .ref a12, .ref a13, .null, .int 0, .int (-1)], zz G a1 3 (fun _ => 0)] s.heap [] := B
  refine lv_aload_n E.x E.b dX11_restore_0 rfl (lv_at hl 0 rfl) ?_
  refine lv_iload_n E.x E.b dX11_restore_1 rfl (lv_at hl 1 rfl) ?_
  refine z_calli E B (wc := [zo a0 9 [.ref a2, .ref a3, .ref a4, .ref a5, .ref a6, .ref a7, .ref a1, .ref a8, .ref a9, .ref a10, .ref a11, .ref a12, .ref a13, .null, .int 0, .int (-1)], zz G a1 3 (fun _ => 0)]) (wr := []) [0, 1] [] rfl rfl (by decide) (by decide) (z_runV E B (As := [.int p0]) (rest := []) [0, 1] rfl (by decide) mv_X11_holds t_960 0 (ci := 9) rfl rfl rfl (c_X11_holds_129 l G _ a0 a1 a2 a3 a4 a5 a6 a7 a8 a9 a10 a11 a12 a13 p0) rfl rfl ⟨Nat.le_of_ble_eq_true rfl, Nat.le_of_ble_eq_true rfl⟩ rfl hl.1 rfl (Nat.le_of_ble_eq_true rfl) dX11_restore_2 ⟨(Nat.le_of_ble_eq_true rfl), (Nat.le_of_ble_eq_true rfl)⟩) (fun r t H locs hp hB J => ?_)
  have hq := hB
  have B := J _ hq
  have B : zB G A s.heap [zo a0 9 [.ref a2, .ref a3, .ref a4, .ref a5, .ref a6, .ref a7, .ref a1, .ref a8, .ref a9, .ref a10, .ref a11, .ref a12, .ref a13, .null, .int 0, .int (-1)], zz G a1 3 (fun _ => 0)] _ _ := B
  have hp := hp.symm
  subst hp
  refine lv_if_ne (tgt := 10) E.x E.b dX11_restore_5 (by decide) (fun c => absurd (by decide +kernel) c) (fun _ => ?_)
  refine lv_iconst (v := 0) E.x E.b dX11_restore_8 (by decide) ?_
  refine W.widen (k := 0) (n := 0) (Nat.le_of_ble_eq_true rfl) (Nat.le_of_ble_eq_true rfl) ?_
  exact z_zret E hr hlocks B (v := 0) rfl rfl (fun t ht => z_q B [] (by decide) rfl ht) dX11_restore_9
set_option maxHeartbeats 4000000 in
set_option maxRecDepth 100000 in
theorem c_X11_cost_136 (l : Launch) (G : zGT) (sz : Nat) (a0 a1 a2 a3 a4 a5 a6 a7 a8 a9 a10 a11 a12 a13 a14 : Nat) : Met l yX11_cost (.code yX11_cost cX11_cost 3 (some .int) :: zT) ({ frames := 0, cells := 0, slots := 0, locals := 64 }) (va_Pc [.ref a0] (zPc G [zo a0 9 [.ref a2, .ref a3, .ref a4, .ref a1, .ref a5, .ref a6, .ref a7, .ref a8, .ref a9, .ref a10, .ref a11, .ref a12, .ref a13, .null, .int 0, .int (-1)], zo a1 0 [.ref a14, .int 0]] sz)) ((fun A => va_Qi (fun (r : Int32) (_ : Unit) => r = 0) (fun (_ : Unit) t => zQ G [zo a0 9 [.ref a2, .ref a3, .ref a4, .ref a1, .ref a5, .ref a6, .ref a7, .ref a8, .ref a9, .ref a10, .ref a11, .ref a12, .ref a13, .null, .int 0, .int (-1)], zo a1 0 [.ref a14, .int 0]] A t) A) (va_A [zo a0 9 [.ref a2, .ref a3, .ref a4, .ref a1, .ref a5, .ref a6, .ref a7, .ref a8, .ref a9, .ref a10, .ref a11, .ref a12, .ref a13, .null, .int 0, .int (-1)], zo a1 0 [.ref a14, .int 0]] sz)) 0 0 (va_A [zo a0 9 [.ref a2, .ref a3, .ref a4, .ref a1, .ref a5, .ref a6, .ref a7, .ref a8, .ref a9, .ref a10, .ref a11, .ref a12, .ref a13, .null, .int 0, .int (-1)], zo a1 0 [.ref a14, .int 0]] sz) := by
  refine z_start (y := yX11_cost) (bytes := cX11_cost) (maxL := 3) (ret := (some .int)) (av := [.ref a0]) (QA := (fun A => va_Qi (fun (r : Int32) (_ : Unit) => r = 0) (fun (_ : Unit) t => zQ G [zo a0 9 [.ref a2, .ref a3, .ref a4, .ref a1, .ref a5, .ref a6, .ref a7, .ref a8, .ref a9, .ref a10, .ref a11, .ref a12, .ref a13, .null, .int 0, .int (-1)], zo a1 0 [.ref a14, .int 0]] A t) A)) (by decide) ⟨Nat.le_of_ble_eq_true rfl, trivial⟩ ?_
  intro p e s m below meth c A ls E B hr hlocks hin hl
  have hl : lv_has ls 3 [(0, .ref a0)] := hl
  have B : zB G A s.heap [zo a0 9 [.ref a2, .ref a3, .ref a4, .ref a1, .ref a5, .ref a6, .ref a7, .ref a8, .ref a9, .ref a10, .ref a11, .ref a12, .ref a13, .null, .int 0, .int (-1)], zo a1 0 [.ref a14, .int 0]] s.heap [] := B
  refine lv_iconst (v := 0) E.x E.b dX11_cost_0 (by decide) ?_
  refine lv_istore_n (lv' := [(1, .int 0), (0, .ref a0)]) E.x E.b dX11_cost_1 rfl hl (by decide) rfl (fun ls hl => ?_)
  refine lv_iconst (v := 0) E.x E.b dX11_cost_2 (by decide) ?_
  refine lv_istore_n (lv' := [(2, .int 0), (1, .int 0), (0, .ref a0)]) E.x E.b dX11_cost_3 rfl hl (by decide) rfl (fun ls hl => ?_)
  refine lv_iload_n E.x E.b dX11_cost_4 rfl (lv_at hl 0 rfl) ?_
  refine lv_aload_n E.x E.b dX11_cost_5 rfl (lv_at hl 2 rfl) ?_
  refine z_get E B z_inX11 (ci := 9) rfl 3 (by decide) t_372 0 rfl rfl dX11_cost_6 ?_
  refine z_get E B z_inX0 (ci := 0) rfl 1 (by decide) t_253 1 rfl rfl dX11_cost_9 ?_
  refine lv_icmp_ge (tgt := 36) E.x E.b dX11_cost_12 (by decide) (fun _ => ?_) (fun c => absurd (by decide +kernel) c)
  refine lv_iload_n E.x E.b dX11_cost_36 rfl (lv_at hl 1 rfl) ?_
  refine W.widen (k := 0) (n := 0) (Nat.le_of_ble_eq_true rfl) (Nat.le_of_ble_eq_true rfl) ?_
  exact z_iret E hr hlocks B (v := 0) rfl (fun t ht => z_q B [0, 1] (by decide) rfl ht) dX11_cost_37
set_option maxHeartbeats 4000000 in
set_option maxRecDepth 100000 in
theorem c_X11_setLevels_137 (l : Launch) (G : zGT) (sz : Nat) (a0 a1 a2 a3 a4 a5 a6 a7 a8 a9 a10 a11 a12 a13 a14 : Nat) : Met l yX11_setLevels (.code yX11_setLevels cX11_setLevels 5 (some .int) :: zT) ({ frames := 0, cells := 0, slots := 0, locals := 64 }) (va_Pc [.ref a0] (zPc G [zo a0 9 [.ref a2, .ref a3, .ref a4, .ref a1, .ref a5, .ref a6, .ref a7, .ref a8, .ref a9, .ref a10, .ref a11, .ref a12, .ref a13, .null, .int 0, .int (-1)], zo a1 0 [.ref a14, .int 0]] sz)) ((fun A => va_Qi (fun (r : Int32) (_ : Unit) => r = 0) (fun (_ : Unit) t => zQ G [zo a0 9 [.ref a2, .ref a3, .ref a4, .ref a1, .ref a5, .ref a6, .ref a7, .ref a8, .ref a9, .ref a10, .ref a11, .ref a12, .ref a13, .null, .int 0, .int (-1)], zo a1 0 [.ref a14, .int 0]] A t) A) (va_A [zo a0 9 [.ref a2, .ref a3, .ref a4, .ref a1, .ref a5, .ref a6, .ref a7, .ref a8, .ref a9, .ref a10, .ref a11, .ref a12, .ref a13, .null, .int 0, .int (-1)], zo a1 0 [.ref a14, .int 0]] sz)) 0 0 (va_A [zo a0 9 [.ref a2, .ref a3, .ref a4, .ref a1, .ref a5, .ref a6, .ref a7, .ref a8, .ref a9, .ref a10, .ref a11, .ref a12, .ref a13, .null, .int 0, .int (-1)], zo a1 0 [.ref a14, .int 0]] sz) := by
  refine z_start (y := yX11_setLevels) (bytes := cX11_setLevels) (maxL := 5) (ret := (some .int)) (av := [.ref a0]) (QA := (fun A => va_Qi (fun (r : Int32) (_ : Unit) => r = 0) (fun (_ : Unit) t => zQ G [zo a0 9 [.ref a2, .ref a3, .ref a4, .ref a1, .ref a5, .ref a6, .ref a7, .ref a8, .ref a9, .ref a10, .ref a11, .ref a12, .ref a13, .null, .int 0, .int (-1)], zo a1 0 [.ref a14, .int 0]] A t) A)) (by decide) ⟨Nat.le_of_ble_eq_true rfl, trivial⟩ ?_
  intro p e s m below meth c A ls E B hr hlocks hin hl
  have hl : lv_has ls 5 [(0, .ref a0)] := hl
  have B : zB G A s.heap [zo a0 9 [.ref a2, .ref a3, .ref a4, .ref a1, .ref a5, .ref a6, .ref a7, .ref a8, .ref a9, .ref a10, .ref a11, .ref a12, .ref a13, .null, .int 0, .int (-1)], zo a1 0 [.ref a14, .int 0]] s.heap [] := B
  refine lv_iconst (v := 0) E.x E.b dX11_setLevels_0 (by decide) ?_
  refine lv_istore_n (lv' := [(1, .int 0), (0, .ref a0)]) E.x E.b dX11_setLevels_1 rfl hl (by decide) rfl (fun ls hl => ?_)
  refine lv_iconst (v := 0) E.x E.b dX11_setLevels_2 (by decide) ?_
  refine lv_istore_n (lv' := [(2, .int 0), (1, .int 0), (0, .ref a0)]) E.x E.b dX11_setLevels_3 rfl hl (by decide) rfl (fun ls hl => ?_)
  refine lv_iload_n E.x E.b dX11_setLevels_4 rfl (lv_at hl 0 rfl) ?_
  refine lv_aload_n E.x E.b dX11_setLevels_5 rfl (lv_at hl 2 rfl) ?_
  refine z_get E B z_inX11 (ci := 9) rfl 3 (by decide) t_372 0 rfl rfl dX11_setLevels_6 ?_
  refine z_get E B z_inX0 (ci := 0) rfl 1 (by decide) t_253 1 rfl rfl dX11_setLevels_9 ?_
  refine lv_icmp_ge (tgt := 103) E.x E.b dX11_setLevels_12 (by decide) (fun _ => ?_) (fun c => absurd (by decide +kernel) c)
  refine lv_iload_n E.x E.b dX11_setLevels_103 rfl (lv_at hl 1 rfl) ?_
  refine W.widen (k := 0) (n := 0) (Nat.le_of_ble_eq_true rfl) (Nat.le_of_ble_eq_true rfl) ?_
  exact z_iret E hr hlocks B (v := 0) rfl (fun t ht => z_q B [0, 1] (by decide) rfl ht) dX11_setLevels_104
set_option maxHeartbeats 4000000 in
set_option maxRecDepth 100000 in
theorem c_X11_gatesThatAgree_138 (l : Launch) (G : zGT) (sz : Nat) (a0 a1 a2 a3 a4 a5 a6 a7 a8 a9 a10 a11 a12 a13 a14 : Nat) : Met l yX11_gatesThatAgree (.code yX11_gatesThatAgree cX11_gatesThatAgree 5 (some .int) :: zT) ({ frames := 0, cells := 0, slots := 0, locals := 64 }) (va_Pc [.ref a0] (zPc G [zo a0 9 [.ref a2, .ref a3, .ref a4, .ref a1, .ref a5, .ref a6, .ref a7, .ref a8, .ref a9, .ref a10, .ref a11, .ref a12, .ref a13, .null, .int 0, .int (-1)], zo a1 0 [.ref a14, .int 0]] sz)) ((fun A => va_Qi (fun (r : Int32) (_ : Unit) => r = 0) (fun (_ : Unit) t => zQ G [zo a0 9 [.ref a2, .ref a3, .ref a4, .ref a1, .ref a5, .ref a6, .ref a7, .ref a8, .ref a9, .ref a10, .ref a11, .ref a12, .ref a13, .null, .int 0, .int (-1)], zo a1 0 [.ref a14, .int 0]] A t) A) (va_A [zo a0 9 [.ref a2, .ref a3, .ref a4, .ref a1, .ref a5, .ref a6, .ref a7, .ref a8, .ref a9, .ref a10, .ref a11, .ref a12, .ref a13, .null, .int 0, .int (-1)], zo a1 0 [.ref a14, .int 0]] sz)) 0 0 (va_A [zo a0 9 [.ref a2, .ref a3, .ref a4, .ref a1, .ref a5, .ref a6, .ref a7, .ref a8, .ref a9, .ref a10, .ref a11, .ref a12, .ref a13, .null, .int 0, .int (-1)], zo a1 0 [.ref a14, .int 0]] sz) := by
  refine z_start (y := yX11_gatesThatAgree) (bytes := cX11_gatesThatAgree) (maxL := 5) (ret := (some .int)) (av := [.ref a0]) (QA := (fun A => va_Qi (fun (r : Int32) (_ : Unit) => r = 0) (fun (_ : Unit) t => zQ G [zo a0 9 [.ref a2, .ref a3, .ref a4, .ref a1, .ref a5, .ref a6, .ref a7, .ref a8, .ref a9, .ref a10, .ref a11, .ref a12, .ref a13, .null, .int 0, .int (-1)], zo a1 0 [.ref a14, .int 0]] A t) A)) (by decide) ⟨Nat.le_of_ble_eq_true rfl, trivial⟩ ?_
  intro p e s m below meth c A ls E B hr hlocks hin hl
  have hl : lv_has ls 5 [(0, .ref a0)] := hl
  have B : zB G A s.heap [zo a0 9 [.ref a2, .ref a3, .ref a4, .ref a1, .ref a5, .ref a6, .ref a7, .ref a8, .ref a9, .ref a10, .ref a11, .ref a12, .ref a13, .null, .int 0, .int (-1)], zo a1 0 [.ref a14, .int 0]] s.heap [] := B
  refine lv_iconst (v := 0) E.x E.b dX11_gatesThatAgree_0 (by decide) ?_
  refine lv_istore_n (lv' := [(1, .int 0), (0, .ref a0)]) E.x E.b dX11_gatesThatAgree_1 rfl hl (by decide) rfl (fun ls hl => ?_)
  refine lv_iconst (v := 0) E.x E.b dX11_gatesThatAgree_2 (by decide) ?_
  refine lv_istore_n (lv' := [(2, .int 0), (1, .int 0), (0, .ref a0)]) E.x E.b dX11_gatesThatAgree_3 rfl hl (by decide) rfl (fun ls hl => ?_)
  refine lv_iload_n E.x E.b dX11_gatesThatAgree_4 rfl (lv_at hl 0 rfl) ?_
  refine lv_aload_n E.x E.b dX11_gatesThatAgree_5 rfl (lv_at hl 2 rfl) ?_
  refine z_get E B z_inX11 (ci := 9) rfl 3 (by decide) t_372 0 rfl rfl dX11_gatesThatAgree_6 ?_
  refine z_get E B z_inX0 (ci := 0) rfl 1 (by decide) t_253 1 rfl rfl dX11_gatesThatAgree_9 ?_
  refine lv_icmp_ge (tgt := 95) E.x E.b dX11_gatesThatAgree_12 (by decide) (fun _ => ?_) (fun c => absurd (by decide +kernel) c)
  refine lv_iload_n E.x E.b dX11_gatesThatAgree_95 rfl (lv_at hl 1 rfl) ?_
  refine W.widen (k := 0) (n := 0) (Nat.le_of_ble_eq_true rfl) (Nat.le_of_ble_eq_true rfl) ?_
  exact z_iret E hr hlocks B (v := 0) rfl (fun t ht => z_q B [0, 1] (by decide) rfl ht) dX11_gatesThatAgree_96
