set_option maxHeartbeats 4000000 in
set_option maxRecDepth 100000 in
theorem c_X11_agree_112 (l : Launch) (G : zGT) (sz : Nat) (a0 a1 a2 a3 a4 a5 a6 a7 a8 a9 a10 a11 a12 a13 a14 : Nat) (p0 p1 : Int32) : Met l yX11_agree (.code yX11_agree cX11_agree 3 (some .int) :: zT) ({ frames := 1, cells := 0, slots := 0, locals := 85 }) (va_Pc [.ref a0, .int p0, .int p1] (zPc G [zo a0 9 [.ref a2, .ref a3, .ref a4, .ref a1, .ref a5, .ref a6, .ref a7, .ref a8, .ref a9, .ref a10, .ref a11, .ref a12, .ref a13, .null, .int 0, .int (-1)], zo a1 0 [.ref a14, .int 0]] sz)) ((fun A => va_Qi (fun (r : Int32) (_ : Unit) => r = (-1)) (fun (_ : Unit) t => zQ G [] A t) A) (va_A [zo a0 9 [.ref a2, .ref a3, .ref a4, .ref a1, .ref a5, .ref a6, .ref a7, .ref a8, .ref a9, .ref a10, .ref a11, .ref a12, .ref a13, .null, .int 0, .int (-1)], zo a1 0 [.ref a14, .int 0]] sz)) 0 0 (va_A [zo a0 9 [.ref a2, .ref a3, .ref a4, .ref a1, .ref a5, .ref a6, .ref a7, .ref a8, .ref a9, .ref a10, .ref a11, .ref a12, .ref a13, .null, .int 0, .int (-1)], zo a1 0 [.ref a14, .int 0]] sz) := by
  refine z_start (y := yX11_agree) (bytes := cX11_agree) (maxL := 3) (ret := (some .int)) (av := [.ref a0, .int p0, .int p1]) (QA := (fun A => va_Qi (fun (r : Int32) (_ : Unit) => r = (-1)) (fun (_ : Unit) t => zQ G [] A t) A)) (by decide) ⟨Nat.le_of_ble_eq_true rfl, trivial⟩ ?_
  intro p e s m below meth c A ls E B hr hlocks hin hl
  have hl : lv_has ls 3 [(0, .ref a0), (1, .int p0), (2, .int p1)] := hl
  have B : zB G A s.heap [zo a0 9 [.ref a2, .ref a3, .ref a4, .ref a1, .ref a5, .ref a6, .ref a7, .ref a8, .ref a9, .ref a10, .ref a11, .ref a12, .ref a13, .null, .int 0, .int (-1)], zo a1 0 [.ref a14, .int 0]] s.heap [] := B
  refine lv_aload_n E.x E.b dX11_agree_0 rfl (lv_at hl 0 rfl) ?_
  refine z_get E B z_inX11 (ci := 9) rfl 3 (by decide) t_372 0 rfl rfl dX11_agree_1 ?_
  refine lv_iload_n E.x E.b dX11_agree_4 rfl (lv_at hl 1 rfl) ?_
  refine z_calli E B (wc := [zo a1 0 [.ref a14, .int 0]]) (wr := [zo a0 9 [.ref a2, .ref a3, .ref a4, .ref a1, .ref a5, .ref a6, .ref a7, .ref a8, .ref a9, .ref a10, .ref a11, .ref a12, .ref a13, .null, .int 0, .int (-1)]]) [1] [0] rfl rfl (by decide) (by decide) (z_runV E B (As := [.int p0]) (rest := []) [1] rfl (by decide) mv_X0_has t_709 0 (ci := 0) rfl rfl rfl (c_X0_has_61 l G _ a1 a14 p0) rfl rfl ⟨Nat.le_of_ble_eq_true rfl, Nat.le_of_ble_eq_true rfl⟩ rfl hl.1 rfl (Nat.le_of_ble_eq_true rfl) dX11_agree_5 ⟨(Nat.le_of_ble_eq_true rfl), (Nat.le_of_ble_eq_true rfl)⟩) (fun r t H locs hp hB J => ?_)
  have hq := hB
  have B := J _ hq
  have B : zB G A s.heap [zo a0 9 [.ref a2, .ref a3, .ref a4, .ref a1, .ref a5, .ref a6, .ref a7, .ref a8, .ref a9, .ref a10, .ref a11, .ref a12, .ref a13, .null, .int 0, .int (-1)], zo a1 0 [.ref a14, .int 0]] _ _ := B
  have hp := hp.symm
  subst hp
  refine lv_if_eq (tgt := 22) E.x E.b dX11_agree_8 (by decide) (fun _ => ?_) (fun c => absurd (by decide +kernel) c)
  refine lv_iconst (v := (-1)) E.x E.b dX11_agree_22 (by decide) ?_
  refine W.widen (k := 0) (n := 0) (Nat.le_of_ble_eq_true rfl) (Nat.le_of_ble_eq_true rfl) ?_
  exact z_iret E hr hlocks B (v := (-1)) rfl (fun t ht => z_q B [] (by decide) rfl ht) dX11_agree_23
set_option maxHeartbeats 4000000 in
set_option maxRecDepth 100000 in
theorem c_X0_has_113 (l : Launch) (G : zGT) (sz : Nat) (a0 a1 : Nat) (p0 : Int32) (hp0 : ¬ p0.toInt = (-1)) : Met l yX0_has (.code yX0_has cX0_has 2 (some .boolean) :: zT) ({ frames := 0, cells := 0, slots := 0, locals := 64 }) (va_Pc [.ref a0, .int p0] (zPc G [zo a0 0 [.ref a1, .int 0]] sz)) ((fun A => va_Qi (fun (r : Int32) (_ : Unit) => r = 0) (fun (_ : Unit) t => zQ G [zo a0 0 [.ref a1, .int 0]] A t) A) (va_A [zo a0 0 [.ref a1, .int 0]] sz)) 0 0 (va_A [zo a0 0 [.ref a1, .int 0]] sz) := by
  refine z_start (y := yX0_has) (bytes := cX0_has) (maxL := 2) (ret := (some .boolean)) (av := [.ref a0, .int p0]) (QA := (fun A => va_Qi (fun (r : Int32) (_ : Unit) => r = 0) (fun (_ : Unit) t => zQ G [zo a0 0 [.ref a1, .int 0]] A t) A)) (by decide) ⟨Nat.le_of_ble_eq_true rfl, trivial⟩ ?_
  intro p e s m below meth c A ls E B hr hlocks hin hl
  have hl : lv_has ls 2 [(0, .ref a0), (1, .int p0)] := hl
  have B : zB G A s.heap [zo a0 0 [.ref a1, .int 0]] s.heap [] := B
  refine lv_iload_n E.x E.b dX0_has_0 rfl (lv_at hl 1 rfl) ?_
  refine lv_if_lt (tgt := 16) E.x E.b dX0_has_1 (by decide) (fun c_1 => ?_) (fun c_1 => ?_)
  · have c_1f : p0.toInt < 0 := zi_lt c_1
    refine lv_iconst (v := 0) E.x E.b dX0_has_16 (by decide) ?_
    refine W.widen (k := 0) (n := 0) (Nat.le_of_ble_eq_true rfl) (Nat.le_of_ble_eq_true rfl) ?_
    exact z_zret E hr hlocks B (v := 0) rfl rfl (fun t ht => z_q B [0] (by decide) rfl ht) dX0_has_17
  · have c_1f : 0 ≤ p0.toInt := zi_nlt c_1
    refine lv_iload_n E.x E.b dX0_has_4 rfl (lv_at hl 1 rfl) ?_
    refine lv_aload_n E.x E.b dX0_has_5 rfl (lv_at hl 0 rfl) ?_
    refine z_get E B z_inX0 (ci := 0) rfl 1 (by decide) t_250 0 rfl rfl dX0_has_6 ?_
    refine lv_icmp_ge (tgt := 16) E.x E.b dX0_has_9 (by decide) (fun c_2 => ?_) (fun c_2 => ?_)
    · have c_2f : 0 ≤ p0.toInt := zi_le c_2
      refine lv_iconst (v := 0) E.x E.b dX0_has_16 (by decide) ?_
      refine W.widen (k := 0) (n := 0) (Nat.le_of_ble_eq_true rfl) (Nat.le_of_ble_eq_true rfl) ?_
      exact z_zret E hr hlocks B (v := 0) rfl rfl (fun t ht => z_q B [0] (by decide) rfl ht) dX0_has_17
    · have c_2f : p0.toInt < 0 := zi_nle c_2
      exfalso; omega
set_option maxHeartbeats 4000000 in
set_option maxRecDepth 100000 in
theorem c_X11_answer_114 (l : Launch) (G : zGT) (sz : Nat) (a0 a1 : Nat) (p0 p1 : Int32) : Met l yX11_answer (.code yX11_answer cX11_answer 4 (some .int) :: zT) ({ frames := 1, cells := 0, slots := 0, locals := 85 }) (va_Pc [.ref a0, .int p0, .int p1, .int 2] (zPc G [zo a0 0 [.ref a1, .int 0]] sz)) ((fun A => va_Qi (fun (r : Int32) (_ : Unit) => (¬ p0.toInt = (-1) ∧ r = (-1)) ∨ (p0.toInt = (-1) ∧ r = 0)) (fun (_ : Unit) t => zQ G [zo a0 0 [.ref a1, .int 0]] A t) A) (va_A [zo a0 0 [.ref a1, .int 0]] sz)) 0 0 (va_A [zo a0 0 [.ref a1, .int 0]] sz) := by
  refine z_start (y := yX11_answer) (bytes := cX11_answer) (maxL := 4) (ret := (some .int)) (av := [.ref a0, .int p0, .int p1, .int 2]) (QA := (fun A => va_Qi (fun (r : Int32) (_ : Unit) => (¬ p0.toInt = (-1) ∧ r = (-1)) ∨ (p0.toInt = (-1) ∧ r = 0)) (fun (_ : Unit) t => zQ G [zo a0 0 [.ref a1, .int 0]] A t) A)) (by decide) ⟨Nat.le_of_ble_eq_true rfl, trivial⟩ ?_
  intro p e s m below meth c A ls E B hr hlocks hin hl
  have hl : lv_has ls 4 [(0, .ref a0), (1, .int p0), (2, .int p1), (3, .int 2)] := hl
  have B : zB G A s.heap [zo a0 0 [.ref a1, .int 0]] s.heap [] := B
  refine lv_aload_n E.x E.b dX11_answer_0 rfl (lv_at hl 0 rfl) ?_
  refine lv_ifnonnull (tgt := 6) E.x E.b dX11_answer_1 (by decide) ?_
  refine lv_iload_n E.x E.b dX11_answer_6 rfl (lv_at hl 1 rfl) ?_
  refine lv_iconst (v := (-1)) E.x E.b dX11_answer_7 (by decide) ?_
  refine lv_icmp_ne (tgt := 16) E.x E.b dX11_answer_8 (by decide) (fun c_1 => ?_) (fun c_1 => ?_)
  · have c_1f : ¬ p0.toInt = (-1) := zi_ne c_1
    refine lv_aload_n E.x E.b dX11_answer_16 rfl (lv_at hl 0 rfl) ?_
    refine lv_iload_n E.x E.b dX11_answer_17 rfl (lv_at hl 1 rfl) ?_
    refine z_calli E B (wc := [zo a0 0 [.ref a1, .int 0]]) (wr := []) [0] [] rfl rfl (by decide) (by decide) (z_runV E B (As := [.int p0]) (rest := []) [0] rfl (by decide) mv_X0_has t_709 0 (ci := 0) rfl rfl rfl (c_X0_has_113 l G _ a0 a1 p0 (by omega)) rfl rfl ⟨Nat.le_of_ble_eq_true rfl, Nat.le_of_ble_eq_true rfl⟩ rfl hl.1 rfl (Nat.le_of_ble_eq_true rfl) dX11_answer_18 ⟨(Nat.le_of_ble_eq_true rfl), (Nat.le_of_ble_eq_true rfl)⟩) (fun r t H locs hp hB J => ?_)
    have hq := hB
    have B := J _ hq
    have B : zB G A s.heap [zo a0 0 [.ref a1, .int 0]] _ _ := B
    have hp := hp.symm
    subst hp
    refine lv_if_eq (tgt := 33) E.x E.b dX11_answer_21 (by decide) (fun _ => ?_) (fun c => absurd (by decide +kernel) c)
    refine lv_iconst (v := (-1)) E.x E.b dX11_answer_33 (by decide) ?_
    refine W.widen (k := 0) (n := 0) (Nat.le_of_ble_eq_true rfl) (Nat.le_of_ble_eq_true rfl) ?_
    exact z_iret E hr hlocks B (v := (-1)) (Or.inl ⟨(by first | decide | omega), rfl⟩) (fun t ht => z_q B [0] (by decide) rfl ht) dX11_answer_34
  · have c_1f : p0.toInt = (-1) := zi_eq c_1
    obtain rfl := zi_pt (x := p0) (-1) (by show p0.toInt = (-1); omega)
    refine lv_aload_n E.x E.b dX11_answer_11 rfl (lv_at hl 0 rfl) ?_
    refine z_get E B z_inX0 (ci := 0) rfl 1 (by decide) t_253 0 rfl rfl dX11_answer_12 ?_
    refine W.widen (k := 0) (n := 0) (Nat.le_of_ble_eq_true rfl) (Nat.le_of_ble_eq_true rfl) ?_
    exact z_iret E hr hlocks B (v := 0) (Or.inr (⟨(by first | decide | omega), rfl⟩)) (fun t ht => z_q B [0] (by decide) rfl ht) dX11_answer_15
set_option maxHeartbeats 4000000 in
set_option maxRecDepth 100000 in
theorem c_X11_shrunk_115 (l : Launch) (G : zGT) (sz : Nat) (a0 a1 a2 a3 a4 a5 a6 a7 a8 a9 a10 a11 a12 a13 a14 a15 : Nat) (p0 p1 : Int32) : Met l yX11_shrunk (.code yX11_shrunk cX11_shrunk 3 (some .int) :: zT) ({ frames := 3, cells := 0, slots := 0, locals := 108 }) (va_Pc [.ref a0, .int p0, .int p1] (zPc G [zo a0 9 [.ref a5, .ref a6, .ref a7, .ref a2, .ref a1, .ref a8, .ref a9, .ref a10, .ref a11, .ref a12, .ref a13, .ref a14, .ref a15, .null, .int 0, .int (-1)], zo a1 0 [.ref a3, .int 0], zo a2 0 [.ref a4, .int 0], zi G a3 16 (fun _ => 0), zi G a4 16 (fun _ => 0)] sz)) ((fun A => va_Qi (fun (r : Int32) (_ : Unit) => (¬ p0.toInt = (-1) ∧ r = (-1)) ∨ (p0.toInt = (-1) ∧ r = 0)) (fun (_ : Unit) t => zQ G [] A t) A) (va_A [zo a0 9 [.ref a5, .ref a6, .ref a7, .ref a2, .ref a1, .ref a8, .ref a9, .ref a10, .ref a11, .ref a12, .ref a13, .ref a14, .ref a15, .null, .int 0, .int (-1)], zo a1 0 [.ref a3, .int 0], zo a2 0 [.ref a4, .int 0], zi G a3 16 (fun _ => 0), zi G a4 16 (fun _ => 0)] sz)) 0 0 (va_A [zo a0 9 [.ref a5, .ref a6, .ref a7, .ref a2, .ref a1, .ref a8, .ref a9, .ref a10, .ref a11, .ref a12, .ref a13, .ref a14, .ref a15, .null, .int 0, .int (-1)], zo a1 0 [.ref a3, .int 0], zo a2 0 [.ref a4, .int 0], zi G a3 16 (fun _ => 0), zi G a4 16 (fun _ => 0)] sz) := by
  refine z_start (y := yX11_shrunk) (bytes := cX11_shrunk) (maxL := 3) (ret := (some .int)) (av := [.ref a0, .int p0, .int p1]) (QA := (fun A => va_Qi (fun (r : Int32) (_ : Unit) => (¬ p0.toInt = (-1) ∧ r = (-1)) ∨ (p0.toInt = (-1) ∧ r = 0)) (fun (_ : Unit) t => zQ G [] A t) A)) (by decide) ⟨Nat.le_of_ble_eq_true rfl, trivial⟩ ?_
  intro p e s m below meth c A ls E B hr hlocks hin hl
  have hl : lv_has ls 3 [(0, .ref a0), (1, .int p0), (2, .int p1)] := hl
  have B : zB G A s.heap [zo a0 9 [.ref a5, .ref a6, .ref a7, .ref a2, .ref a1, .ref a8, .ref a9, .ref a10, .ref a11, .ref a12, .ref a13, .ref a14, .ref a15, .null, .int 0, .int (-1)], zo a1 0 [.ref a3, .int 0], zo a2 0 [.ref a4, .int 0], zi G a3 16 (fun _ => 0), zi G a4 16 (fun _ => 0)] s.heap [] := B
  refine lv_aload_n E.x E.b dX11_shrunk_0 rfl (lv_at hl 0 rfl) ?_
  refine z_callr E B (wc := [zo a0 9 [.ref a5, .ref a6, .ref a7, .ref a2, .ref a1, .ref a8, .ref a9, .ref a10, .ref a11, .ref a12, .ref a13, .ref a14, .ref a15, .null, .int 0, .int (-1)], zo a1 0 [.ref a3, .int 0], zo a2 0 [.ref a4, .int 0], zi G a3 16 (fun _ => 0), zi G a4 16 (fun _ => 0)]) (wr := []) [0, 1, 2, 3, 4] [] rfl rfl (by decide) (by decide) (z_runV E B (As := []) (rest := []) [0, 1, 2, 3, 4] rfl (by decide) mv_X11_shrunkCascade t_730 0 (ci := 9) rfl rfl rfl (c_X11_shrunkCascade_67 l G _ a0 a1 a2 a3 a4 a5 a6 a7 a8 a9 a10 a11 a12 a13 a14 a15) rfl rfl ⟨Nat.le_of_ble_eq_true rfl, Nat.le_of_ble_eq_true rfl⟩ rfl hl.1 rfl (Nat.le_of_ble_eq_true rfl) dX11_shrunk_1 ⟨(Nat.le_of_ble_eq_true rfl), (Nat.le_of_ble_eq_true rfl)⟩) (fun r t H locs hp hB J => ?_)
  obtain ⟨hr2, hq⟩ := hB
  have B := J _ hq
  have hr3 := hr2.symm
  subst hr3
  have B : zB G A s.heap [zo a0 9 [.ref a5, .ref a6, .ref a7, .ref a2, .ref a1, .ref a8, .ref a9, .ref a10, .ref a11, .ref a12, .ref a13, .ref a14, .ref a15, .null, .int 0, .int (-1)], zo a1 0 [.ref a3, .int 0], zo a2 0 [.ref a4, .int 0], zi G a3 16 (fun _ => 0), zi G a4 16 (fun _ => 0)] _ _ := B
  refine lv_iload_n E.x E.b dX11_shrunk_4 rfl (lv_at hl 1 rfl) ?_
  refine lv_iload_n E.x E.b dX11_shrunk_5 rfl (lv_at hl 2 rfl) ?_
  refine lv_iconst (v := 2) E.x E.b dX11_shrunk_6 (by decide) ?_
  refine z_calli E B (wc := [zo a1 0 [.ref a3, .int 0]]) (wr := [zo a0 9 [.ref a5, .ref a6, .ref a7, .ref a2, .ref a1, .ref a8, .ref a9, .ref a10, .ref a11, .ref a12, .ref a13, .ref a14, .ref a15, .null, .int 0, .int (-1)], zo a2 0 [.ref a4, .int 0], zi G a3 16 (fun _ => 0), zi G a4 16 (fun _ => 0)]) [1] [0, 2, 3, 4] rfl rfl (by decide) (by decide) (z_runS E B (As := [.ref a1, .int p0, .int p1, .int 2]) (rest := []) [1] rfl (by decide) ms_X11_answer t_1088 (c_X11_answer_114 l G _ a1 a3 p0 p1) rfl rfl ⟨Nat.le_of_ble_eq_true rfl, Nat.le_of_ble_eq_true rfl⟩ rfl hl.1 rfl (Nat.le_of_ble_eq_true rfl) dX11_shrunk_7 ⟨(Nat.le_of_ble_eq_true rfl), (Nat.le_of_ble_eq_true rfl)⟩) (fun r t H locs hp hB J => ?_)
  have hq := hB
  have B := J _ hq
  have B : zB G A s.heap [zo a0 9 [.ref a5, .ref a6, .ref a7, .ref a2, .ref a1, .ref a8, .ref a9, .ref a10, .ref a11, .ref a12, .ref a13, .ref a14, .ref a15, .null, .int 0, .int (-1)], zo a2 0 [.ref a4, .int 0], zi G a3 16 (fun _ => 0), zi G a4 16 (fun _ => 0), zo a1 0 [.ref a3, .int 0]] _ _ := B
  rcases hp with ⟨c_1, rfl⟩ | ⟨c_2, rfl⟩
  · skip
    refine W.widen (k := 0) (n := 0) (Nat.le_of_ble_eq_true rfl) (Nat.le_of_ble_eq_true rfl) ?_
    exact z_iret E hr hlocks B (v := (-1)) (Or.inl ⟨(by first | decide | omega), rfl⟩) (fun t ht => z_q B [] (by decide) rfl ht) dX11_shrunk_10
  · skip
    obtain rfl := zi_pt (x := p0) (-1) (by show p0.toInt = (-1); omega)
    refine W.widen (k := 0) (n := 0) (Nat.le_of_ble_eq_true rfl) (Nat.le_of_ble_eq_true rfl) ?_
    exact z_iret E hr hlocks B (v := 0) (Or.inr (⟨(by first | decide | omega), rfl⟩)) (fun t ht => z_q B [] (by decide) rfl ht) dX11_shrunk_10
set_option maxHeartbeats 4000000 in
set_option maxRecDepth 100000 in
theorem c_X11_answer_116 (l : Launch) (G : zGT) (sz : Nat) (a0 a1 : Nat) (p0 p1 : Int32) : Met l yX11_answer (.code yX11_answer cX11_answer 4 (some .int) :: zT) ({ frames := 1, cells := 0, slots := 0, locals := 85 }) (va_Pc [.ref a0, .int p0, .int p1, .int 1] (zPc G [zo a0 0 [.ref a1, .int 0]] sz)) ((fun A => va_Qi (fun (r : Int32) (_ : Unit) => (¬ p0.toInt = (-1) ∧ r = (-1)) ∨ (p0.toInt = (-1) ∧ r = 0)) (fun (_ : Unit) t => zQ G [zo a0 0 [.ref a1, .int 0]] A t) A) (va_A [zo a0 0 [.ref a1, .int 0]] sz)) 0 0 (va_A [zo a0 0 [.ref a1, .int 0]] sz) := by
  refine z_start (y := yX11_answer) (bytes := cX11_answer) (maxL := 4) (ret := (some .int)) (av := [.ref a0, .int p0, .int p1, .int 1]) (QA := (fun A => va_Qi (fun (r : Int32) (_ : Unit) => (¬ p0.toInt = (-1) ∧ r = (-1)) ∨ (p0.toInt = (-1) ∧ r = 0)) (fun (_ : Unit) t => zQ G [zo a0 0 [.ref a1, .int 0]] A t) A)) (by decide) ⟨Nat.le_of_ble_eq_true rfl, trivial⟩ ?_
  intro p e s m below meth c A ls E B hr hlocks hin hl
  have hl : lv_has ls 4 [(0, .ref a0), (1, .int p0), (2, .int p1), (3, .int 1)] := hl
  have B : zB G A s.heap [zo a0 0 [.ref a1, .int 0]] s.heap [] := B
  refine lv_aload_n E.x E.b dX11_answer_0 rfl (lv_at hl 0 rfl) ?_
  refine lv_ifnonnull (tgt := 6) E.x E.b dX11_answer_1 (by decide) ?_
  refine lv_iload_n E.x E.b dX11_answer_6 rfl (lv_at hl 1 rfl) ?_
  refine lv_iconst (v := (-1)) E.x E.b dX11_answer_7 (by decide) ?_
  refine lv_icmp_ne (tgt := 16) E.x E.b dX11_answer_8 (by decide) (fun c_1 => ?_) (fun c_1 => ?_)
  · have c_1f : ¬ p0.toInt = (-1) := zi_ne c_1
    refine lv_aload_n E.x E.b dX11_answer_16 rfl (lv_at hl 0 rfl) ?_
    refine lv_iload_n E.x E.b dX11_answer_17 rfl (lv_at hl 1 rfl) ?_
    refine z_calli E B (wc := [zo a0 0 [.ref a1, .int 0]]) (wr := []) [0] [] rfl rfl (by decide) (by decide) (z_runV E B (As := [.int p0]) (rest := []) [0] rfl (by decide) mv_X0_has t_709 0 (ci := 0) rfl rfl rfl (c_X0_has_113 l G _ a0 a1 p0 (by omega)) rfl rfl ⟨Nat.le_of_ble_eq_true rfl, Nat.le_of_ble_eq_true rfl⟩ rfl hl.1 rfl (Nat.le_of_ble_eq_true rfl) dX11_answer_18 ⟨(Nat.le_of_ble_eq_true rfl), (Nat.le_of_ble_eq_true rfl)⟩) (fun r t H locs hp hB J => ?_)
    have hq := hB
    have B := J _ hq
    have B : zB G A s.heap [zo a0 0 [.ref a1, .int 0]] _ _ := B
    have hp := hp.symm
    subst hp
    refine lv_if_eq (tgt := 33) E.x E.b dX11_answer_21 (by decide) (fun _ => ?_) (fun c => absurd (by decide +kernel) c)
    refine lv_iconst (v := (-1)) E.x E.b dX11_answer_33 (by decide) ?_
    refine W.widen (k := 0) (n := 0) (Nat.le_of_ble_eq_true rfl) (Nat.le_of_ble_eq_true rfl) ?_
    exact z_iret E hr hlocks B (v := (-1)) (Or.inl ⟨(by first | decide | omega), rfl⟩) (fun t ht => z_q B [0] (by decide) rfl ht) dX11_answer_34
  · have c_1f : p0.toInt = (-1) := zi_eq c_1
    obtain rfl := zi_pt (x := p0) (-1) (by show p0.toInt = (-1); omega)
    refine lv_aload_n E.x E.b dX11_answer_11 rfl (lv_at hl 0 rfl) ?_
    refine z_get E B z_inX0 (ci := 0) rfl 1 (by decide) t_253 0 rfl rfl dX11_answer_12 ?_
    refine W.widen (k := 0) (n := 0) (Nat.le_of_ble_eq_true rfl) (Nat.le_of_ble_eq_true rfl) ?_
    exact z_iret E hr hlocks B (v := 0) (Or.inr (⟨(by first | decide | omega), rfl⟩)) (fun t ht => z_q B [0] (by decide) rfl ht) dX11_answer_15
set_option maxHeartbeats 4000000 in
set_option maxRecDepth 100000 in
theorem c_X11_found_117 (l : Launch) (G : zGT) (sz : Nat) (a0 a1 a2 a3 a4 a5 a6 a7 a8 a9 a10 a11 a12 a13 a14 a15 a16 a17 a18 a19 : Nat) (p0 p1 : Int32) : Met l yX11_found (.code yX11_found cX11_found 4 (some .int) :: zT) ({ frames := 3, cells := 0, slots := 0, locals := 136 }) (va_Pc [.ref a0, .int 0, .int p0, .int p1] (zPc G [zo a0 9 [.ref a6, .ref a7, .ref a8, .ref a2, .ref a9, .ref a10, .ref a11, .ref a12, .ref a1, .ref a13, .ref a14, .ref a15, .ref a16, .null, .int 0, .int (-1)], zo a1 1 [.ref a3, .ref a4, .ref a5], zo a2 0 [.ref a17, .int 0], zi G a3 64 (fun _ => 0), zo a4 0 [.ref a18, .int 0], zo a5 0 [.ref a19, .int 0]] sz)) ((fun A => va_Qi (fun (r : Int32) (_ : Unit) => (¬ p0.toInt = (-1) ∧ r = (-1)) ∨ (p0.toInt = (-1) ∧ r = 0)) (fun (_ : Unit) t => zQ G [] A t) A) (va_A [zo a0 9 [.ref a6, .ref a7, .ref a8, .ref a2, .ref a9, .ref a10, .ref a11, .ref a12, .ref a1, .ref a13, .ref a14, .ref a15, .ref a16, .null, .int 0, .int (-1)], zo a1 1 [.ref a3, .ref a4, .ref a5], zo a2 0 [.ref a17, .int 0], zi G a3 64 (fun _ => 0), zo a4 0 [.ref a18, .int 0], zo a5 0 [.ref a19, .int 0]] sz)) 0 0 (va_A [zo a0 9 [.ref a6, .ref a7, .ref a8, .ref a2, .ref a9, .ref a10, .ref a11, .ref a12, .ref a1, .ref a13, .ref a14, .ref a15, .ref a16, .null, .int 0, .int (-1)], zo a1 1 [.ref a3, .ref a4, .ref a5], zo a2 0 [.ref a17, .int 0], zi G a3 64 (fun _ => 0), zo a4 0 [.ref a18, .int 0], zo a5 0 [.ref a19, .int 0]] sz) := by
  refine z_start (y := yX11_found) (bytes := cX11_found) (maxL := 4) (ret := (some .int)) (av := [.ref a0, .int 0, .int p0, .int p1]) (QA := (fun A => va_Qi (fun (r : Int32) (_ : Unit) => (¬ p0.toInt = (-1) ∧ r = (-1)) ∨ (p0.toInt = (-1) ∧ r = 0)) (fun (_ : Unit) t => zQ G [] A t) A)) (by decide) ⟨Nat.le_of_ble_eq_true rfl, trivial⟩ ?_
  intro p e s m below meth c A ls E B hr hlocks hin hl
  have hl : lv_has ls 4 [(0, .ref a0), (1, .int 0), (2, .int p0), (3, .int p1)] := hl
  have B : zB G A s.heap [zo a0 9 [.ref a6, .ref a7, .ref a8, .ref a2, .ref a9, .ref a10, .ref a11, .ref a12, .ref a1, .ref a13, .ref a14, .ref a15, .ref a16, .null, .int 0, .int (-1)], zo a1 1 [.ref a3, .ref a4, .ref a5], zo a2 0 [.ref a17, .int 0], zi G a3 64 (fun _ => 0), zo a4 0 [.ref a18, .int 0], zo a5 0 [.ref a19, .int 0]] s.heap [] := B
  refine lv_aload_n E.x E.b dX11_found_0 rfl (lv_at hl 0 rfl) ?_
  refine lv_iload_n E.x E.b dX11_found_1 rfl (lv_at hl 1 rfl) ?_
  refine z_callr E B (wc := [zo a0 9 [.ref a6, .ref a7, .ref a8, .ref a2, .ref a9, .ref a10, .ref a11, .ref a12, .ref a1, .ref a13, .ref a14, .ref a15, .ref a16, .null, .int 0, .int (-1)], zo a1 1 [.ref a3, .ref a4, .ref a5], zo a2 0 [.ref a17, .int 0], zi G a3 64 (fun _ => 0), zo a4 0 [.ref a18, .int 0], zo a5 0 [.ref a19, .int 0]]) (wr := []) [0, 1, 2, 3, 4, 5] [] rfl rfl (by decide) (by decide) (z_runV E B (As := [.int 0]) (rest := []) [0, 1, 2, 3, 4, 5] rfl (by decide) mv_X11_foundCascade t_790 0 (ci := 9) rfl rfl rfl (c_X11_foundCascade_74 l G _ a0 a1 a2 a3 a4 a5 a6 a7 a8 a9 a10 a11 a12 a13 a14 a15 a16 a17 a18 a19) rfl rfl ⟨Nat.le_of_ble_eq_true rfl, Nat.le_of_ble_eq_true rfl⟩ rfl hl.1 rfl (Nat.le_of_ble_eq_true rfl) dX11_found_2 ⟨(Nat.le_of_ble_eq_true rfl), (Nat.le_of_ble_eq_true rfl)⟩) (fun r t H locs hp hB J => ?_)
  obtain ⟨hr2, hq⟩ := hB
  have B := J _ hq
  have hr3 := hr2.symm
  subst hr3
  have B : zB G A s.heap [zo a0 9 [.ref a6, .ref a7, .ref a8, .ref a2, .ref a9, .ref a10, .ref a11, .ref a12, .ref a1, .ref a13, .ref a14, .ref a15, .ref a16, .null, .int 0, .int (-1)], zo a1 1 [.ref a3, .ref a4, .ref a5], zo a2 0 [.ref a17, .int 0], zi G a3 64 (fun _ => 0), zo a4 0 [.ref a18, .int 0], zo a5 0 [.ref a19, .int 0]] _ _ := B
  refine lv_iload_n E.x E.b dX11_found_5 rfl (lv_at hl 2 rfl) ?_
  refine lv_iload_n E.x E.b dX11_found_6 rfl (lv_at hl 3 rfl) ?_
  refine lv_iconst (v := 1) E.x E.b dX11_found_7 (by decide) ?_
  refine z_calli E B (wc := [zo a4 0 [.ref a18, .int 0]]) (wr := [zo a0 9 [.ref a6, .ref a7, .ref a8, .ref a2, .ref a9, .ref a10, .ref a11, .ref a12, .ref a1, .ref a13, .ref a14, .ref a15, .ref a16, .null, .int 0, .int (-1)], zo a1 1 [.ref a3, .ref a4, .ref a5], zo a2 0 [.ref a17, .int 0], zi G a3 64 (fun _ => 0), zo a5 0 [.ref a19, .int 0]]) [4] [0, 1, 2, 3, 5] rfl rfl (by decide) (by decide) (z_runS E B (As := [.ref a4, .int p0, .int p1, .int 1]) (rest := []) [4] rfl (by decide) ms_X11_answer t_1088 (c_X11_answer_116 l G _ a4 a18 p0 p1) rfl rfl ⟨Nat.le_of_ble_eq_true rfl, Nat.le_of_ble_eq_true rfl⟩ rfl hl.1 rfl (Nat.le_of_ble_eq_true rfl) dX11_found_8 ⟨(Nat.le_of_ble_eq_true rfl), (Nat.le_of_ble_eq_true rfl)⟩) (fun r t H locs hp hB J => ?_)
  have hq := hB
  have B := J _ hq
  have B : zB G A s.heap [zo a0 9 [.ref a6, .ref a7, .ref a8, .ref a2, .ref a9, .ref a10, .ref a11, .ref a12, .ref a1, .ref a13, .ref a14, .ref a15, .ref a16, .null, .int 0, .int (-1)], zo a1 1 [.ref a3, .ref a4, .ref a5], zo a2 0 [.ref a17, .int 0], zi G a3 64 (fun _ => 0), zo a5 0 [.ref a19, .int 0], zo a4 0 [.ref a18, .int 0]] _ _ := B
  rcases hp with ⟨c_1, rfl⟩ | ⟨c_2, rfl⟩
  · skip
    refine W.widen (k := 0) (n := 0) (Nat.le_of_ble_eq_true rfl) (Nat.le_of_ble_eq_true rfl) ?_
    exact z_iret E hr hlocks B (v := (-1)) (Or.inl ⟨(by first | decide | omega), rfl⟩) (fun t ht => z_q B [] (by decide) rfl ht) dX11_found_11
  · skip
    obtain rfl := zi_pt (x := p0) (-1) (by show p0.toInt = (-1); omega)
    refine W.widen (k := 0) (n := 0) (Nat.le_of_ble_eq_true rfl) (Nat.le_of_ble_eq_true rfl) ?_
    exact z_iret E hr hlocks B (v := 0) (Or.inr (⟨(by first | decide | omega), rfl⟩)) (fun t ht => z_q B [] (by decide) rfl ht) dX11_found_11
set_option maxHeartbeats 4000000 in
set_option maxRecDepth 100000 in
theorem c_X11_found_118 (l : Launch) (G : zGT) (sz : Nat) (a0 a1 a2 a3 a4 a5 a6 a7 a8 a9 a10 a11 a12 a13 a14 a15 a16 a17 a18 a19 : Nat) (p0 p1 : Int32) : Met l yX11_found (.code yX11_found cX11_found 4 (some .int) :: zT) ({ frames := 3, cells := 0, slots := 0, locals := 136 }) (va_Pc [.ref a0, .int 1, .int p0, .int p1] (zPc G [zo a0 9 [.ref a6, .ref a7, .ref a8, .ref a2, .ref a9, .ref a10, .ref a11, .ref a12, .ref a1, .ref a13, .ref a14, .ref a15, .ref a16, .null, .int 0, .int (-1)], zo a1 1 [.ref a3, .ref a4, .ref a5], zo a2 0 [.ref a17, .int 0], zi G a3 64 (fun _ => 0), zo a4 0 [.ref a18, .int 0], zo a5 0 [.ref a19, .int 0]] sz)) ((fun A => va_Qi (fun (r : Int32) (_ : Unit) => (¬ p0.toInt = (-1) ∧ r = (-1)) ∨ (p0.toInt = (-1) ∧ r = 0)) (fun (_ : Unit) t => zQ G [] A t) A) (va_A [zo a0 9 [.ref a6, .ref a7, .ref a8, .ref a2, .ref a9, .ref a10, .ref a11, .ref a12, .ref a1, .ref a13, .ref a14, .ref a15, .ref a16, .null, .int 0, .int (-1)], zo a1 1 [.ref a3, .ref a4, .ref a5], zo a2 0 [.ref a17, .int 0], zi G a3 64 (fun _ => 0), zo a4 0 [.ref a18, .int 0], zo a5 0 [.ref a19, .int 0]] sz)) 0 0 (va_A [zo a0 9 [.ref a6, .ref a7, .ref a8, .ref a2, .ref a9, .ref a10, .ref a11, .ref a12, .ref a1, .ref a13, .ref a14, .ref a15, .ref a16, .null, .int 0, .int (-1)], zo a1 1 [.ref a3, .ref a4, .ref a5], zo a2 0 [.ref a17, .int 0], zi G a3 64 (fun _ => 0), zo a4 0 [.ref a18, .int 0], zo a5 0 [.ref a19, .int 0]] sz) := by
  refine z_start (y := yX11_found) (bytes := cX11_found) (maxL := 4) (ret := (some .int)) (av := [.ref a0, .int 1, .int p0, .int p1]) (QA := (fun A => va_Qi (fun (r : Int32) (_ : Unit) => (¬ p0.toInt = (-1) ∧ r = (-1)) ∨ (p0.toInt = (-1) ∧ r = 0)) (fun (_ : Unit) t => zQ G [] A t) A)) (by decide) ⟨Nat.le_of_ble_eq_true rfl, trivial⟩ ?_
  intro p e s m below meth c A ls E B hr hlocks hin hl
  have hl : lv_has ls 4 [(0, .ref a0), (1, .int 1), (2, .int p0), (3, .int p1)] := hl
  have B : zB G A s.heap [zo a0 9 [.ref a6, .ref a7, .ref a8, .ref a2, .ref a9, .ref a10, .ref a11, .ref a12, .ref a1, .ref a13, .ref a14, .ref a15, .ref a16, .null, .int 0, .int (-1)], zo a1 1 [.ref a3, .ref a4, .ref a5], zo a2 0 [.ref a17, .int 0], zi G a3 64 (fun _ => 0), zo a4 0 [.ref a18, .int 0], zo a5 0 [.ref a19, .int 0]] s.heap [] := B
  refine lv_aload_n E.x E.b dX11_found_0 rfl (lv_at hl 0 rfl) ?_
  refine lv_iload_n E.x E.b dX11_found_1 rfl (lv_at hl 1 rfl) ?_
  refine z_callr E B (wc := [zo a0 9 [.ref a6, .ref a7, .ref a8, .ref a2, .ref a9, .ref a10, .ref a11, .ref a12, .ref a1, .ref a13, .ref a14, .ref a15, .ref a16, .null, .int 0, .int (-1)], zo a1 1 [.ref a3, .ref a4, .ref a5], zo a2 0 [.ref a17, .int 0], zi G a3 64 (fun _ => 0), zo a4 0 [.ref a18, .int 0], zo a5 0 [.ref a19, .int 0]]) (wr := []) [0, 1, 2, 3, 4, 5] [] rfl rfl (by decide) (by decide) (z_runV E B (As := [.int 1]) (rest := []) [0, 1, 2, 3, 4, 5] rfl (by decide) mv_X11_foundCascade t_790 0 (ci := 9) rfl rfl rfl (c_X11_foundCascade_78 l G _ a0 a1 a2 a3 a4 a5 a6 a7 a8 a9 a10 a11 a12 a13 a14 a15 a16 a17 a18 a19) rfl rfl ⟨Nat.le_of_ble_eq_true rfl, Nat.le_of_ble_eq_true rfl⟩ rfl hl.1 rfl (Nat.le_of_ble_eq_true rfl) dX11_found_2 ⟨(Nat.le_of_ble_eq_true rfl), (Nat.le_of_ble_eq_true rfl)⟩) (fun r t H locs hp hB J => ?_)
  obtain ⟨hr2, hq⟩ := hB
  have B := J _ hq
  have hr3 := hr2.symm
  subst hr3
  have B : zB G A s.heap [zo a0 9 [.ref a6, .ref a7, .ref a8, .ref a2, .ref a9, .ref a10, .ref a11, .ref a12, .ref a1, .ref a13, .ref a14, .ref a15, .ref a16, .null, .int 0, .int (-1)], zo a1 1 [.ref a3, .ref a4, .ref a5], zo a2 0 [.ref a17, .int 0], zi G a3 64 (fun _ => 0), zo a4 0 [.ref a18, .int 0], zo a5 0 [.ref a19, .int 0]] _ _ := B
  refine lv_iload_n E.x E.b dX11_found_5 rfl (lv_at hl 2 rfl) ?_
  refine lv_iload_n E.x E.b dX11_found_6 rfl (lv_at hl 3 rfl) ?_
  refine lv_iconst (v := 1) E.x E.b dX11_found_7 (by decide) ?_
  refine z_calli E B (wc := [zo a4 0 [.ref a18, .int 0]]) (wr := [zo a0 9 [.ref a6, .ref a7, .ref a8, .ref a2, .ref a9, .ref a10, .ref a11, .ref a12, .ref a1, .ref a13, .ref a14, .ref a15, .ref a16, .null, .int 0, .int (-1)], zo a1 1 [.ref a3, .ref a4, .ref a5], zo a2 0 [.ref a17, .int 0], zi G a3 64 (fun _ => 0), zo a5 0 [.ref a19, .int 0]]) [4] [0, 1, 2, 3, 5] rfl rfl (by decide) (by decide) (z_runS E B (As := [.ref a4, .int p0, .int p1, .int 1]) (rest := []) [4] rfl (by decide) ms_X11_answer t_1088 (c_X11_answer_116 l G _ a4 a18 p0 p1) rfl rfl ⟨Nat.le_of_ble_eq_true rfl, Nat.le_of_ble_eq_true rfl⟩ rfl hl.1 rfl (Nat.le_of_ble_eq_true rfl) dX11_found_8 ⟨(Nat.le_of_ble_eq_true rfl), (Nat.le_of_ble_eq_true rfl)⟩) (fun r t H locs hp hB J => ?_)
  have hq := hB
  have B := J _ hq
  have B : zB G A s.heap [zo a0 9 [.ref a6, .ref a7, .ref a8, .ref a2, .ref a9, .ref a10, .ref a11, .ref a12, .ref a1, .ref a13, .ref a14, .ref a15, .ref a16, .null, .int 0, .int (-1)], zo a1 1 [.ref a3, .ref a4, .ref a5], zo a2 0 [.ref a17, .int 0], zi G a3 64 (fun _ => 0), zo a5 0 [.ref a19, .int 0], zo a4 0 [.ref a18, .int 0]] _ _ := B
  rcases hp with ⟨c_1, rfl⟩ | ⟨c_2, rfl⟩
  · skip
    refine W.widen (k := 0) (n := 0) (Nat.le_of_ble_eq_true rfl) (Nat.le_of_ble_eq_true rfl) ?_
    exact z_iret E hr hlocks B (v := (-1)) (Or.inl ⟨(by first | decide | omega), rfl⟩) (fun t ht => z_q B [] (by decide) rfl ht) dX11_found_11
  · skip
    obtain rfl := zi_pt (x := p0) (-1) (by show p0.toInt = (-1); omega)
    refine W.widen (k := 0) (n := 0) (Nat.le_of_ble_eq_true rfl) (Nat.le_of_ble_eq_true rfl) ?_
    exact z_iret E hr hlocks B (v := 0) (Or.inr (⟨(by first | decide | omega), rfl⟩)) (fun t ht => z_q B [] (by decide) rfl ht) dX11_found_11
set_option maxHeartbeats 4000000 in
set_option maxRecDepth 100000 in
theorem c_X11_least_119 (l : Launch) (G : zGT) (sz : Nat) (a0 a1 a2 a3 a4 a5 a6 a7 a8 a9 a10 a11 a12 a13 a14 a15 a16 a17 : Nat) (p0 p1 : Int32) : Met l yX11_least (.code yX11_least cX11_least 3 (some .int) :: zT) ({ frames := 7, cells := 8, slots := 11848, locals := 222 }) (va_Pc [.ref a0, .int p0, .int p1] (zPc G [zo a0 9 [.ref a4, .ref a5, .ref a6, .ref a2, .ref a7, .ref a8, .ref a9, .ref a10, .ref a1, .ref a11, .ref a12, .ref a13, .ref a14, .null, .int 0, .int (-1)], zo a1 1 [.ref a3, .ref a15, .ref a16], zo a2 0 [.ref a17, .int 0], zi G a3 64 (fun _ => 0)] sz)) ((fun A => va_Qi (fun (r : Int32) (_ : Unit) => (¬ p0.toInt = (-1) ∧ r = (-1)) ∨ (p0.toInt = (-1) ∧ r = 0)) (fun (_ : Unit) t => zQ G [] A t) A) (va_A [zo a0 9 [.ref a4, .ref a5, .ref a6, .ref a2, .ref a7, .ref a8, .ref a9, .ref a10, .ref a1, .ref a11, .ref a12, .ref a13, .ref a14, .null, .int 0, .int (-1)], zo a1 1 [.ref a3, .ref a15, .ref a16], zo a2 0 [.ref a17, .int 0], zi G a3 64 (fun _ => 0)] sz)) 8 11848 (va_A [zo a0 9 [.ref a4, .ref a5, .ref a6, .ref a2, .ref a7, .ref a8, .ref a9, .ref a10, .ref a1, .ref a11, .ref a12, .ref a13, .ref a14, .null, .int 0, .int (-1)], zo a1 1 [.ref a3, .ref a15, .ref a16], zo a2 0 [.ref a17, .int 0], zi G a3 64 (fun _ => 0)] sz) := by
  refine z_start (y := yX11_least) (bytes := cX11_least) (maxL := 3) (ret := (some .int)) (av := [.ref a0, .int p0, .int p1]) (QA := (fun A => va_Qi (fun (r : Int32) (_ : Unit) => (¬ p0.toInt = (-1) ∧ r = (-1)) ∨ (p0.toInt = (-1) ∧ r = 0)) (fun (_ : Unit) t => zQ G [] A t) A)) (by decide) ⟨Nat.le_of_ble_eq_true rfl, trivial⟩ ?_
  intro p e s m below meth c A ls E B hr hlocks hin hl
  have hl : lv_has ls 3 [(0, .ref a0), (1, .int p0), (2, .int p1)] := hl
  have B : zB G A s.heap [zo a0 9 [.ref a4, .ref a5, .ref a6, .ref a2, .ref a7, .ref a8, .ref a9, .ref a10, .ref a1, .ref a11, .ref a12, .ref a13, .ref a14, .null, .int 0, .int (-1)], zo a1 1 [.ref a3, .ref a15, .ref a16], zo a2 0 [.ref a17, .int 0], zi G a3 64 (fun _ => 0)] s.heap [] := B
  refine lv_aload_n E.x E.b dX11_least_0 rfl (lv_at hl 0 rfl) ?_
  refine z_callr E B (wc := [zo a0 9 [.ref a4, .ref a5, .ref a6, .ref a2, .ref a7, .ref a8, .ref a9, .ref a10, .ref a1, .ref a11, .ref a12, .ref a13, .ref a14, .null, .int 0, .int (-1)], zo a1 1 [.ref a3, .ref a15, .ref a16], zo a2 0 [.ref a17, .int 0], zi G a3 64 (fun _ => 0)]) (wr := []) [0, 1, 2, 3] [] rfl rfl (by decide) (by decide) (z_runV E B (As := []) (rest := []) [0, 1, 2, 3] rfl (by decide) mv_X11_leastCascade t_840 0 (ci := 9) rfl rfl rfl (c_X11_leastCascade_95 l G _ a0 a1 a2 a3 a4 a5 a6 a7 a8 a9 a10 a11 a12 a13 a14 a15 a16 a17) rfl rfl ⟨Nat.le_of_ble_eq_true rfl, Nat.le_of_ble_eq_true rfl⟩ rfl hl.1 rfl (Nat.le_of_ble_eq_true rfl) dX11_least_1 ⟨(Nat.le_of_ble_eq_true rfl), (Nat.le_of_ble_eq_true rfl)⟩) (fun r t H locs hp hB J => ?_)
  obtain ⟨q_1, q_2, q_3, q_4, q_5, q_6, q_7, q_8, hr2, hq⟩ := hB
  have B := J _ hq
  have hr3 := hr2.symm
  subst hr3
  have B : zB G A s.heap [zo a0 9 [.ref a4, .ref a5, .ref a6, .ref a2, .ref a7, .ref a8, .ref a9, .ref a10, .ref a1, .ref a11, .ref a12, .ref a13, .ref a14, .ref q_1, .int 0, .int (-1)], zo a1 1 [.ref a3, .ref a15, .ref a16], zo a2 0 [.ref a17, .int 0], zi G a3 64 (fun _ => 0), zi G q_2 8 (fun _ => 0), zi G q_3 12 (fun _ => 0), zi G q_4 12 (fun _ => 0), zi G q_5 12 (fun _ => 0), zo q_1 5 [.ref q_6, .ref q_7, .ref q_8, .ref q_3, .ref q_4, .ref q_5, .int 1, .int 0, .int 0, .int 0], zi G q_7 8192 (upd (fun _ => 0) 0 16777216), zi G q_8 3600 (fun _ => 0), zo q_6 0 [.ref q_2, .int 0]] _ _ := B
  refine lv_iload_n E.x E.b dX11_least_4 rfl (lv_at hl 1 rfl) ?_
  refine lv_iload_n E.x E.b dX11_least_5 rfl (lv_at hl 2 rfl) ?_
  refine lv_iconst (v := 1) E.x E.b dX11_least_6 (by decide) ?_
  refine z_calli E B (wc := [zo q_6 0 [.ref q_2, .int 0]]) (wr := [zo a0 9 [.ref a4, .ref a5, .ref a6, .ref a2, .ref a7, .ref a8, .ref a9, .ref a10, .ref a1, .ref a11, .ref a12, .ref a13, .ref a14, .ref q_1, .int 0, .int (-1)], zo a1 1 [.ref a3, .ref a15, .ref a16], zo a2 0 [.ref a17, .int 0], zi G a3 64 (fun _ => 0), zi G q_2 8 (fun _ => 0), zi G q_3 12 (fun _ => 0), zi G q_4 12 (fun _ => 0), zi G q_5 12 (fun _ => 0), zo q_1 5 [.ref q_6, .ref q_7, .ref q_8, .ref q_3, .ref q_4, .ref q_5, .int 1, .int 0, .int 0, .int 0], zi G q_7 8192 (upd (fun _ => 0) 0 16777216), zi G q_8 3600 (fun _ => 0)]) [11] [0, 1, 2, 3, 4, 5, 6, 7, 8, 9, 10] rfl rfl (by decide) (by decide) (z_runS E B (As := [.ref q_6, .int p0, .int p1, .int 1]) (rest := []) [11] rfl (by decide) ms_X11_answer t_1088 (c_X11_answer_116 l G _ q_6 q_2 p0 p1) rfl rfl ⟨Nat.le_of_ble_eq_true rfl, Nat.le_of_ble_eq_true rfl⟩ rfl hl.1 rfl (Nat.le_of_ble_eq_true rfl) dX11_least_7 ⟨(Nat.le_of_ble_eq_true rfl), (Nat.le_of_ble_eq_true rfl)⟩) (fun r t H locs hp hB J => ?_)
  have hq := hB
  have B := J _ hq
  have B : zB G A s.heap [zo a0 9 [.ref a4, .ref a5, .ref a6, .ref a2, .ref a7, .ref a8, .ref a9, .ref a10, .ref a1, .ref a11, .ref a12, .ref a13, .ref a14, .ref q_1, .int 0, .int (-1)], zo a1 1 [.ref a3, .ref a15, .ref a16], zo a2 0 [.ref a17, .int 0], zi G a3 64 (fun _ => 0), zi G q_2 8 (fun _ => 0), zi G q_3 12 (fun _ => 0), zi G q_4 12 (fun _ => 0), zi G q_5 12 (fun _ => 0), zo q_1 5 [.ref q_6, .ref q_7, .ref q_8, .ref q_3, .ref q_4, .ref q_5, .int 1, .int 0, .int 0, .int 0], zi G q_7 8192 (upd (fun _ => 0) 0 16777216), zi G q_8 3600 (fun _ => 0), zo q_6 0 [.ref q_2, .int 0]] _ _ := B
  rcases hp with ⟨c_9, rfl⟩ | ⟨c_10, rfl⟩
  · skip
    refine W.widen (k := 8) (n := 11848) (Nat.le_of_ble_eq_true rfl) (Nat.le_of_ble_eq_true rfl) ?_
    exact z_iret E hr hlocks B (v := (-1)) (Or.inl ⟨(by first | decide | omega), rfl⟩) (fun t ht => z_q B [] (by decide) rfl ht) dX11_least_10
  · skip
    obtain rfl := zi_pt (x := p0) (-1) (by show p0.toInt = (-1); omega)
    refine W.widen (k := 8) (n := 11848) (Nat.le_of_ble_eq_true rfl) (Nat.le_of_ble_eq_true rfl) ?_
    exact z_iret E hr hlocks B (v := 0) (Or.inr (⟨(by first | decide | omega), rfl⟩)) (fun t ht => z_q B [] (by decide) rfl ht) dX11_least_10
set_option maxHeartbeats 4000000 in
set_option maxRecDepth 100000 in
theorem c_X11_stuck_120 (l : Launch) (G : zGT) (sz : Nat) (a0 a1 a2 a3 a4 a5 a6 a7 a8 a9 a10 a11 a12 a13 : Nat) (p0 p1 : Int32) : Met l yX11_stuck (.code yX11_stuck cX11_stuck 4 (some .int) :: zT) ({ frames := 2, cells := 0, slots := 0, locals := 105 }) (va_Pc [.ref a0, .int p0, .int p1, .int 0] (zPc G [zo a0 9 [.ref a1, .ref a2, .ref a3, .ref a4, .ref a5, .ref a6, .ref a7, .ref a8, .ref a9, .ref a10, .ref a11, .ref a12, .ref a13, .null, .int 0, .int (-1)]] sz)) ((fun A => va_Qi (fun (r : Int32) (_ : Unit) => r = (-1)) (fun (_ : Unit) t => zQ G [] A t) A) (va_A [zo a0 9 [.ref a1, .ref a2, .ref a3, .ref a4, .ref a5, .ref a6, .ref a7, .ref a8, .ref a9, .ref a10, .ref a11, .ref a12, .ref a13, .null, .int 0, .int (-1)]] sz)) 0 0 (va_A [zo a0 9 [.ref a1, .ref a2, .ref a3, .ref a4, .ref a5, .ref a6, .ref a7, .ref a8, .ref a9, .ref a10, .ref a11, .ref a12, .ref a13, .null, .int 0, .int (-1)]] sz) := by
  refine z_start (y := yX11_stuck) (bytes := cX11_stuck) (maxL := 4) (ret := (some .int)) (av := [.ref a0, .int p0, .int p1, .int 0]) (QA := (fun A => va_Qi (fun (r : Int32) (_ : Unit) => r = (-1)) (fun (_ : Unit) t => zQ G [] A t) A)) (by decide) ⟨Nat.le_of_ble_eq_true rfl, trivial⟩ ?_
  intro p e s m below meth c A ls E B hr hlocks hin hl
  have hl : lv_has ls 4 [(0, .ref a0), (1, .int p0), (2, .int p1), (3, .int 0)] := hl
  have B : zB G A s.heap [zo a0 9 [.ref a1, .ref a2, .ref a3, .ref a4, .ref a5, .ref a6, .ref a7, .ref a8, .ref a9, .ref a10, .ref a11, .ref a12, .ref a13, .null, .int 0, .int (-1)]] s.heap [] := B
  refine lv_aload_n E.x E.b dX11_stuck_0 rfl (lv_at hl 0 rfl) ?_
  refine lv_iload_n E.x E.b dX11_stuck_1 rfl (lv_at hl 1 rfl) ?_
  refine z_calli E B (wc := [zo a0 9 [.ref a1, .ref a2, .ref a3, .ref a4, .ref a5, .ref a6, .ref a7, .ref a8, .ref a9, .ref a10, .ref a11, .ref a12, .ref a13, .null, .int 0, .int (-1)]]) (wr := []) [0] [] rfl rfl (by decide) (by decide) (z_runV E B (As := [.int p0]) (rest := []) [0] rfl (by decide) mv_X11_isRow t_1003 0 (ci := 9) rfl rfl rfl (c_X11_isRow_101 l G _ a0 a1 a2 a3 a4 a5 a6 a7 a8 a9 a10 a11 a12 a13 p0) rfl rfl ⟨Nat.le_of_ble_eq_true rfl, Nat.le_of_ble_eq_true rfl⟩ rfl hl.1 rfl (Nat.le_of_ble_eq_true rfl) dX11_stuck_2 ⟨(Nat.le_of_ble_eq_true rfl), (Nat.le_of_ble_eq_true rfl)⟩) (fun r t H locs hp hB J => ?_)
  have hq := hB
  have B := J _ hq
  have B : zB G A s.heap [zo a0 9 [.ref a1, .ref a2, .ref a3, .ref a4, .ref a5, .ref a6, .ref a7, .ref a8, .ref a9, .ref a10, .ref a11, .ref a12, .ref a13, .null, .int 0, .int (-1)]] _ _ := B
  rcases hp with ⟨c_1, rfl⟩ | ⟨c_2, rfl⟩ | ⟨c_3, rfl⟩
  · skip
    refine lv_if_eq (tgt := 16) E.x E.b dX11_stuck_5 (by decide) (fun _ => ?_) (fun c => absurd (by decide +kernel) c)
    refine lv_iconst (v := (-1)) E.x E.b dX11_stuck_16 (by decide) ?_
    refine W.widen (k := 0) (n := 0) (Nat.le_of_ble_eq_true rfl) (Nat.le_of_ble_eq_true rfl) ?_
    exact z_iret E hr hlocks B (v := (-1)) rfl (fun t ht => z_q B [] (by decide) rfl ht) dX11_stuck_17
  · skip
    refine lv_if_eq (tgt := 16) E.x E.b dX11_stuck_5 (by decide) (fun _ => ?_) (fun c => absurd (by decide +kernel) c)
    refine lv_iconst (v := (-1)) E.x E.b dX11_stuck_16 (by decide) ?_
    refine W.widen (k := 0) (n := 0) (Nat.le_of_ble_eq_true rfl) (Nat.le_of_ble_eq_true rfl) ?_
    exact z_iret E hr hlocks B (v := (-1)) rfl (fun t ht => z_q B [] (by decide) rfl ht) dX11_stuck_17
  · skip
    obtain rfl := zi_pt (x := p0) 0 (by show p0.toInt = 0; omega)
    refine lv_if_eq (tgt := 16) E.x E.b dX11_stuck_5 (by decide) (fun c => absurd c (by decide +kernel)) (fun _ => ?_)
    refine lv_aload_n E.x E.b dX11_stuck_8 rfl (lv_at hl 0 rfl) ?_
    refine lv_iload_n E.x E.b dX11_stuck_9 rfl (lv_at hl 2 rfl) ?_
    refine z_calli E B (wc := [zo a0 9 [.ref a1, .ref a2, .ref a3, .ref a4, .ref a5, .ref a6, .ref a7, .ref a8, .ref a9, .ref a10, .ref a11, .ref a12, .ref a13, .null, .int 0, .int (-1)]]) (wr := []) [0] [] rfl rfl (by decide) (by decide) (z_runV E B (As := [.int p1]) (rest := []) [0] rfl (by decide) mv_X11_isWire t_683 0 (ci := 9) rfl rfl rfl (c_X11_isWire_58 l G _ a0 a1 a2 a3 a4 a5 a6 a7 a8 a9 a10 a11 a12 a13 p1) rfl rfl ⟨Nat.le_of_ble_eq_true rfl, Nat.le_of_ble_eq_true rfl⟩ rfl hl.1 rfl (Nat.le_of_ble_eq_true rfl) dX11_stuck_10 ⟨(Nat.le_of_ble_eq_true rfl), (Nat.le_of_ble_eq_true rfl)⟩) (fun r t H locs hp hB J => ?_)
    have hq := hB
    have B := J _ hq
    have B : zB G A s.heap [zo a0 9 [.ref a1, .ref a2, .ref a3, .ref a4, .ref a5, .ref a6, .ref a7, .ref a8, .ref a9, .ref a10, .ref a11, .ref a12, .ref a13, .null, .int 0, .int (-1)]] _ _ := B
    have hp := hp.symm
    subst hp
    refine lv_if_ne (tgt := 18) E.x E.b dX11_stuck_13 (by decide) (fun c => absurd (by decide +kernel) c) (fun _ => ?_)
    refine lv_iconst (v := (-1)) E.x E.b dX11_stuck_16 (by decide) ?_
    refine W.widen (k := 0) (n := 0) (Nat.le_of_ble_eq_true rfl) (Nat.le_of_ble_eq_true rfl) ?_
    exact z_iret E hr hlocks B (v := (-1)) rfl (fun t ht => z_q B [] (by decide) rfl ht) dX11_stuck_17
set_option maxHeartbeats 4000000 in
set_option maxRecDepth 100000 in
theorem c_X11_stuck_121 (l : Launch) (G : zGT) (sz : Nat) (a0 a1 a2 a3 a4 a5 a6 a7 a8 a9 a10 a11 a12 a13 : Nat) (p0 p1 : Int32) : Met l yX11_stuck (.code yX11_stuck cX11_stuck 4 (some .int) :: zT) ({ frames := 2, cells := 0, slots := 0, locals := 105 }) (va_Pc [.ref a0, .int p0, .int p1, .int 1] (zPc G [zo a0 9 [.ref a1, .ref a2, .ref a3, .ref a4, .ref a5, .ref a6, .ref a7, .ref a8, .ref a9, .ref a10, .ref a11, .ref a12, .ref a13, .null, .int 0, .int (-1)]] sz)) ((fun A => va_Qi (fun (r : Int32) (_ : Unit) => r = (-1)) (fun (_ : Unit) t => zQ G [] A t) A) (va_A [zo a0 9 [.ref a1, .ref a2, .ref a3, .ref a4, .ref a5, .ref a6, .ref a7, .ref a8, .ref a9, .ref a10, .ref a11, .ref a12, .ref a13, .null, .int 0, .int (-1)]] sz)) 0 0 (va_A [zo a0 9 [.ref a1, .ref a2, .ref a3, .ref a4, .ref a5, .ref a6, .ref a7, .ref a8, .ref a9, .ref a10, .ref a11, .ref a12, .ref a13, .null, .int 0, .int (-1)]] sz) := by
  refine z_start (y := yX11_stuck) (bytes := cX11_stuck) (maxL := 4) (ret := (some .int)) (av := [.ref a0, .int p0, .int p1, .int 1]) (QA := (fun A => va_Qi (fun (r : Int32) (_ : Unit) => r = (-1)) (fun (_ : Unit) t => zQ G [] A t) A)) (by decide) ⟨Nat.le_of_ble_eq_true rfl, trivial⟩ ?_
  intro p e s m below meth c A ls E B hr hlocks hin hl
  have hl : lv_has ls 4 [(0, .ref a0), (1, .int p0), (2, .int p1), (3, .int 1)] := hl
  have B : zB G A s.heap [zo a0 9 [.ref a1, .ref a2, .ref a3, .ref a4, .ref a5, .ref a6, .ref a7, .ref a8, .ref a9, .ref a10, .ref a11, .ref a12, .ref a13, .null, .int 0, .int (-1)]] s.heap [] := B
  refine lv_aload_n E.x E.b dX11_stuck_0 rfl (lv_at hl 0 rfl) ?_
  refine lv_iload_n E.x E.b dX11_stuck_1 rfl (lv_at hl 1 rfl) ?_
  refine z_calli E B (wc := [zo a0 9 [.ref a1, .ref a2, .ref a3, .ref a4, .ref a5, .ref a6, .ref a7, .ref a8, .ref a9, .ref a10, .ref a11, .ref a12, .ref a13, .null, .int 0, .int (-1)]]) (wr := []) [0] [] rfl rfl (by decide) (by decide) (z_runV E B (As := [.int p0]) (rest := []) [0] rfl (by decide) mv_X11_isRow t_1003 0 (ci := 9) rfl rfl rfl (c_X11_isRow_101 l G _ a0 a1 a2 a3 a4 a5 a6 a7 a8 a9 a10 a11 a12 a13 p0) rfl rfl ⟨Nat.le_of_ble_eq_true rfl, Nat.le_of_ble_eq_true rfl⟩ rfl hl.1 rfl (Nat.le_of_ble_eq_true rfl) dX11_stuck_2 ⟨(Nat.le_of_ble_eq_true rfl), (Nat.le_of_ble_eq_true rfl)⟩) (fun r t H locs hp hB J => ?_)
  have hq := hB
  have B := J _ hq
  have B : zB G A s.heap [zo a0 9 [.ref a1, .ref a2, .ref a3, .ref a4, .ref a5, .ref a6, .ref a7, .ref a8, .ref a9, .ref a10, .ref a11, .ref a12, .ref a13, .null, .int 0, .int (-1)]] _ _ := B
  rcases hp with ⟨c_1, rfl⟩ | ⟨c_2, rfl⟩ | ⟨c_3, rfl⟩
  · skip
    refine lv_if_eq (tgt := 16) E.x E.b dX11_stuck_5 (by decide) (fun _ => ?_) (fun c => absurd (by decide +kernel) c)
    refine lv_iconst (v := (-1)) E.x E.b dX11_stuck_16 (by decide) ?_
    refine W.widen (k := 0) (n := 0) (Nat.le_of_ble_eq_true rfl) (Nat.le_of_ble_eq_true rfl) ?_
    exact z_iret E hr hlocks B (v := (-1)) rfl (fun t ht => z_q B [] (by decide) rfl ht) dX11_stuck_17
  · skip
    refine lv_if_eq (tgt := 16) E.x E.b dX11_stuck_5 (by decide) (fun _ => ?_) (fun c => absurd (by decide +kernel) c)
    refine lv_iconst (v := (-1)) E.x E.b dX11_stuck_16 (by decide) ?_
    refine W.widen (k := 0) (n := 0) (Nat.le_of_ble_eq_true rfl) (Nat.le_of_ble_eq_true rfl) ?_
    exact z_iret E hr hlocks B (v := (-1)) rfl (fun t ht => z_q B [] (by decide) rfl ht) dX11_stuck_17
  · skip
    obtain rfl := zi_pt (x := p0) 0 (by show p0.toInt = 0; omega)
    refine lv_if_eq (tgt := 16) E.x E.b dX11_stuck_5 (by decide) (fun c => absurd c (by decide +kernel)) (fun _ => ?_)
    refine lv_aload_n E.x E.b dX11_stuck_8 rfl (lv_at hl 0 rfl) ?_
    refine lv_iload_n E.x E.b dX11_stuck_9 rfl (lv_at hl 2 rfl) ?_
    refine z_calli E B (wc := [zo a0 9 [.ref a1, .ref a2, .ref a3, .ref a4, .ref a5, .ref a6, .ref a7, .ref a8, .ref a9, .ref a10, .ref a11, .ref a12, .ref a13, .null, .int 0, .int (-1)]]) (wr := []) [0] [] rfl rfl (by decide) (by decide) (z_runV E B (As := [.int p1]) (rest := []) [0] rfl (by decide) mv_X11_isWire t_683 0 (ci := 9) rfl rfl rfl (c_X11_isWire_58 l G _ a0 a1 a2 a3 a4 a5 a6 a7 a8 a9 a10 a11 a12 a13 p1) rfl rfl ⟨Nat.le_of_ble_eq_true rfl, Nat.le_of_ble_eq_true rfl⟩ rfl hl.1 rfl (Nat.le_of_ble_eq_true rfl) dX11_stuck_10 ⟨(Nat.le_of_ble_eq_true rfl), (Nat.le_of_ble_eq_true rfl)⟩) (fun r t H locs hp hB J => ?_)
    have hq := hB
    have B := J _ hq
    have B : zB G A s.heap [zo a0 9 [.ref a1, .ref a2, .ref a3, .ref a4, .ref a5, .ref a6, .ref a7, .ref a8, .ref a9, .ref a10, .ref a11, .ref a12, .ref a13, .null, .int 0, .int (-1)]] _ _ := B
    have hp := hp.symm
    subst hp
    refine lv_if_ne (tgt := 18) E.x E.b dX11_stuck_13 (by decide) (fun c => absurd (by decide +kernel) c) (fun _ => ?_)
    refine lv_iconst (v := (-1)) E.x E.b dX11_stuck_16 (by decide) ?_
    refine W.widen (k := 0) (n := 0) (Nat.le_of_ble_eq_true rfl) (Nat.le_of_ble_eq_true rfl) ?_
    exact z_iret E hr hlocks B (v := (-1)) rfl (fun t ht => z_q B [] (by decide) rfl ht) dX11_stuck_17
set_option maxHeartbeats 4000000 in
set_option maxRecDepth 100000 in
theorem c_X11_terms_122 (l : Launch) (G : zGT) (sz : Nat) (a0 a1 a2 a3 a4 a5 a6 a7 a8 a9 a10 a11 a12 a13 : Nat) (p0 : Int32) : Met l yX11_terms (.code yX11_terms cX11_terms 2 (some .int) :: zT) ({ frames := 1, cells := 0, slots := 0, locals := 85 }) (va_Pc [.ref a0, .int p0] (zPc G [zo a0 9 [.ref a1, .ref a2, .ref a3, .ref a4, .ref a5, .ref a6, .ref a7, .ref a8, .ref a9, .ref a10, .ref a11, .ref a12, .ref a13, .null, .int 0, .int (-1)]] sz)) ((fun A => va_Qi (fun (r : Int32) (_ : Unit) => r = (-1)) (fun (_ : Unit) t => zQ G [] A t) A) (va_A [zo a0 9 [.ref a1, .ref a2, .ref a3, .ref a4, .ref a5, .ref a6, .ref a7, .ref a8, .ref a9, .ref a10, .ref a11, .ref a12, .ref a13, .null, .int 0, .int (-1)]] sz)) 0 0 (va_A [zo a0 9 [.ref a1, .ref a2, .ref a3, .ref a4, .ref a5, .ref a6, .ref a7, .ref a8, .ref a9, .ref a10, .ref a11, .ref a12, .ref a13, .null, .int 0, .int (-1)]] sz) := by
  refine z_start (y := yX11_terms) (bytes := cX11_terms) (maxL := 2) (ret := (some .int)) (av := [.ref a0, .int p0]) (QA := (fun A => va_Qi (fun (r : Int32) (_ : Unit) => r = (-1)) (fun (_ : Unit) t => zQ G [] A t) A)) (by decide) ⟨Nat.le_of_ble_eq_true rfl, trivial⟩ ?_
  intro p e s m below meth c A ls E B hr hlocks hin hl
  have hl : lv_has ls 2 [(0, .ref a0), (1, .int p0)] := hl
  have B : zB G A s.heap [zo a0 9 [.ref a1, .ref a2, .ref a3, .ref a4, .ref a5, .ref a6, .ref a7, .ref a8, .ref a9, .ref a10, .ref a11, .ref a12, .ref a13, .null, .int 0, .int (-1)]] s.heap [] := B
  refine lv_aload_n E.x E.b dX11_terms_0 rfl (lv_at hl 0 rfl) ?_
  refine lv_iload_n E.x E.b dX11_terms_1 rfl (lv_at hl 1 rfl) ?_
  refine z_calli E B (wc := [zo a0 9 [.ref a1, .ref a2, .ref a3, .ref a4, .ref a5, .ref a6, .ref a7, .ref a8, .ref a9, .ref a10, .ref a11, .ref a12, .ref a13, .null, .int 0, .int (-1)]]) (wr := []) [0] [] rfl rfl (by decide) (by decide) (z_runV E B (As := [.int p0]) (rest := []) [0] rfl (by decide) mv_X11_isWire t_683 0 (ci := 9) rfl rfl rfl (c_X11_isWire_58 l G _ a0 a1 a2 a3 a4 a5 a6 a7 a8 a9 a10 a11 a12 a13 p0) rfl rfl ⟨Nat.le_of_ble_eq_true rfl, Nat.le_of_ble_eq_true rfl⟩ rfl hl.1 rfl (Nat.le_of_ble_eq_true rfl) dX11_terms_2 ⟨(Nat.le_of_ble_eq_true rfl), (Nat.le_of_ble_eq_true rfl)⟩) (fun r t H locs hp hB J => ?_)
  have hq := hB
  have B := J _ hq
  have B : zB G A s.heap [zo a0 9 [.ref a1, .ref a2, .ref a3, .ref a4, .ref a5, .ref a6, .ref a7, .ref a8, .ref a9, .ref a10, .ref a11, .ref a12, .ref a13, .null, .int 0, .int (-1)]] _ _ := B
  have hp := hp.symm
  subst hp
  refine lv_if_eq (tgt := 16) E.x E.b dX11_terms_5 (by decide) (fun _ => ?_) (fun c => absurd (by decide +kernel) c)
  refine lv_iconst (v := (-1)) E.x E.b dX11_terms_16 (by decide) ?_
  refine W.widen (k := 0) (n := 0) (Nat.le_of_ble_eq_true rfl) (Nat.le_of_ble_eq_true rfl) ?_
  exact z_iret E hr hlocks B (v := (-1)) rfl (fun t ht => z_q B [] (by decide) rfl ht) dX11_terms_17
set_option maxHeartbeats 4000000 in
set_option maxRecDepth 100000 in
theorem c_X11_idle_123 (l : Launch) (G : zGT) (sz : Nat) (a0 a1 a2 a3 a4 a5 a6 a7 a8 a9 a10 a11 a12 a13 a14 : Nat) (p0 : Int32) : Met l yX11_idle (.code yX11_idle cX11_idle 4 (some .int) :: zT) ({ frames := 0, cells := 0, slots := 0, locals := 64 }) (va_Pc [.ref a0, .int p0] (zPc G [zo a0 9 [.ref a2, .ref a3, .ref a4, .ref a1, .ref a5, .ref a6, .ref a7, .ref a8, .ref a9, .ref a10, .ref a11, .ref a12, .ref a13, .null, .int 0, .int (-1)], zo a1 0 [.ref a14, .int 0]] sz)) ((fun A => va_Qi (fun (r : Int32) (_ : Unit) => (p0.toInt = 0 ∧ r = (-2)) ∨ (p0.toInt = 1 ∧ r = (-2)) ∨ (¬ p0.toInt = 0 ∧ ¬ p0.toInt = 1 ∧ r = (-1))) (fun (_ : Unit) t => zQ G [] A t) A) (va_A [zo a0 9 [.ref a2, .ref a3, .ref a4, .ref a1, .ref a5, .ref a6, .ref a7, .ref a8, .ref a9, .ref a10, .ref a11, .ref a12, .ref a13, .null, .int 0, .int (-1)], zo a1 0 [.ref a14, .int 0]] sz)) 0 0 (va_A [zo a0 9 [.ref a2, .ref a3, .ref a4, .ref a1, .ref a5, .ref a6, .ref a7, .ref a8, .ref a9, .ref a10, .ref a11, .ref a12, .ref a13, .null, .int 0, .int (-1)], zo a1 0 [.ref a14, .int 0]] sz) := by
  refine z_start (y := yX11_idle) (bytes := cX11_idle) (maxL := 4) (ret := (some .int)) (av := [.ref a0, .int p0]) (QA := (fun A => va_Qi (fun (r : Int32) (_ : Unit) => (p0.toInt = 0 ∧ r = (-2)) ∨ (p0.toInt = 1 ∧ r = (-2)) ∨ (¬ p0.toInt = 0 ∧ ¬ p0.toInt = 1 ∧ r = (-1))) (fun (_ : Unit) t => zQ G [] A t) A)) (by decide) ⟨Nat.le_of_ble_eq_true rfl, trivial⟩ ?_
  intro p e s m below meth c A ls E B hr hlocks hin hl
  have hl : lv_has ls 4 [(0, .ref a0), (1, .int p0)] := hl
  have B : zB G A s.heap [zo a0 9 [.ref a2, .ref a3, .ref a4, .ref a1, .ref a5, .ref a6, .ref a7, .ref a8, .ref a9, .ref a10, .ref a11, .ref a12, .ref a13, .null, .int 0, .int (-1)], zo a1 0 [.ref a14, .int 0]] s.heap [] := B
  refine lv_iload_n E.x E.b dX11_idle_0 rfl (lv_at hl 1 rfl) ?_
  refine lv_if_eq (tgt := 11) E.x E.b dX11_idle_1 (by decide) (fun c_1 => ?_) (fun c_1 => ?_)
  · have c_1f : p0.toInt = 0 := zi_eq c_1
    obtain rfl := zi_pt (x := p0) 0 (by show p0.toInt = 0; omega)
    refine lv_iconst (v := 1) E.x E.b dX11_idle_11 (by decide) ?_
    refine lv_istore_n (lv' := [(2, .int 1), (0, .ref a0), (1, .int 0)]) E.x E.b dX11_idle_12 rfl hl (by decide) rfl (fun ls hl => ?_)
    refine lv_iload_n E.x E.b dX11_idle_13 rfl (lv_at hl 0 rfl) ?_
    refine lv_aload_n E.x E.b dX11_idle_14 rfl (lv_at hl 1 rfl) ?_
    refine z_get E B z_inX11 (ci := 9) rfl 3 (by decide) t_372 0 rfl rfl dX11_idle_15 ?_
    refine z_get E B z_inX0 (ci := 0) rfl 1 (by decide) t_253 1 rfl rfl dX11_idle_18 ?_
    refine lv_icmp_gt (tgt := 83) E.x E.b dX11_idle_21 (by decide) (fun _ => ?_) (fun c => absurd (by decide +kernel) c)
    refine lv_bipush (v := (-2)) E.x E.b dX11_idle_83 (by decide) ?_
    refine W.widen (k := 0) (n := 0) (Nat.le_of_ble_eq_true rfl) (Nat.le_of_ble_eq_true rfl) ?_
    exact z_iret E hr hlocks B (v := (-2)) (Or.inl ⟨(by first | decide | omega), rfl⟩) (fun t ht => z_q B [] (by decide) rfl ht) dX11_idle_85
  · have c_1f : ¬ p0.toInt = 0 := zi_ne c_1
    refine lv_iload_n E.x E.b dX11_idle_4 rfl (lv_at hl 1 rfl) ?_
    refine lv_iconst (v := 1) E.x E.b dX11_idle_5 (by decide) ?_
    refine lv_icmp_eq (tgt := 11) E.x E.b dX11_idle_6 (by decide) (fun c_2 => ?_) (fun c_2 => ?_)
    · have c_2f : p0.toInt = 1 := zi_eq c_2
      obtain rfl := zi_pt (x := p0) 1 (by show p0.toInt = 1; omega)
      refine lv_iconst (v := 1) E.x E.b dX11_idle_11 (by decide) ?_
      refine lv_istore_n (lv' := [(2, .int 1), (0, .ref a0), (1, .int 1)]) E.x E.b dX11_idle_12 rfl hl (by decide) rfl (fun ls hl => ?_)
      refine lv_iload_n E.x E.b dX11_idle_13 rfl (lv_at hl 0 rfl) ?_
      refine lv_aload_n E.x E.b dX11_idle_14 rfl (lv_at hl 1 rfl) ?_
      refine z_get E B z_inX11 (ci := 9) rfl 3 (by decide) t_372 0 rfl rfl dX11_idle_15 ?_
      refine z_get E B z_inX0 (ci := 0) rfl 1 (by decide) t_253 1 rfl rfl dX11_idle_18 ?_
      refine lv_icmp_gt (tgt := 83) E.x E.b dX11_idle_21 (by decide) (fun _ => ?_) (fun c => absurd (by decide +kernel) c)
      refine lv_bipush (v := (-2)) E.x E.b dX11_idle_83 (by decide) ?_
      refine W.widen (k := 0) (n := 0) (Nat.le_of_ble_eq_true rfl) (Nat.le_of_ble_eq_true rfl) ?_
      exact z_iret E hr hlocks B (v := (-2)) (Or.inr (Or.inl ⟨(by first | decide | omega), rfl⟩)) (fun t ht => z_q B [] (by decide) rfl ht) dX11_idle_85
    · have c_2f : ¬ p0.toInt = 1 := zi_ne c_2
      refine lv_iconst (v := (-1)) E.x E.b dX11_idle_9 (by decide) ?_
      refine W.widen (k := 0) (n := 0) (Nat.le_of_ble_eq_true rfl) (Nat.le_of_ble_eq_true rfl) ?_
      exact z_iret E hr hlocks B (v := (-1)) (Or.inr (Or.inr (⟨(by first | decide | omega), (by first | decide | omega), rfl⟩))) (fun t ht => z_q B [] (by decide) rfl ht) dX11_idle_10
set_option maxHeartbeats 4000000 in
set_option maxRecDepth 100000 in
theorem c_X9_look_124 (l : Launch) (G : zGT) (sz : Nat) (a0 a1 a2 a3 a4 : Nat) : Met l yX9_look (.code yX9_look cX9_look 7 none :: zT) ({ frames := 1, cells := 0, slots := 0, locals := 89 }) (va_Pc [.ref a0, .ref a1, .int 0] (zPc G [zo a0 7 [.ref a2, .ref a3, .int 0, .int 0], zo a1 0 [.ref a4, .int 0], zi G a2 16 (fun _ => 0)] sz)) ((fun A => va_Qv (fun (_ : Unit) => True) (fun (_ : Unit) t => zQ G [zo a0 7 [.ref a2, .ref a3, .int 1, .int 0], zo a1 0 [.ref a4, .int 0], zi G a2 16 (fun _ => 0)] A t) A) (va_A [zo a0 7 [.ref a2, .ref a3, .int 0, .int 0], zo a1 0 [.ref a4, .int 0], zi G a2 16 (fun _ => 0)] sz)) 0 0 (va_A [zo a0 7 [.ref a2, .ref a3, .int 0, .int 0], zo a1 0 [.ref a4, .int 0], zi G a2 16 (fun _ => 0)] sz) := by
  refine z_start (y := yX9_look) (bytes := cX9_look) (maxL := 7) (ret := none) (av := [.ref a0, .ref a1, .int 0]) (QA := (fun A => va_Qv (fun (_ : Unit) => True) (fun (_ : Unit) t => zQ G [zo a0 7 [.ref a2, .ref a3, .int 1, .int 0], zo a1 0 [.ref a4, .int 0], zi G a2 16 (fun _ => 0)] A t) A)) (by decide) ⟨Nat.le_of_ble_eq_true rfl, trivial⟩ ?_
  intro p e s m below meth c A ls E B hr hlocks hin hl
  have hl : lv_has ls 7 [(0, .ref a0), (1, .ref a1), (2, .int 0)] := hl
  have B : zB G A s.heap [zo a0 7 [.ref a2, .ref a3, .int 0, .int 0], zo a1 0 [.ref a4, .int 0], zi G a2 16 (fun _ => 0)] s.heap [] := B
  refine lv_aload_n E.x E.b dX9_look_0 rfl (lv_at hl 0 rfl) ?_
  refine lv_iconst (v := 1) E.x E.b dX9_look_1 (by decide) ?_
  refine lv_iload_n E.x E.b dX9_look_2 rfl (lv_at hl 2 rfl) ?_
  refine lv_ishl E.x E.b dX9_look_3 (z_topi 1 (by decide +kernel) ?_)
  refine z_put E B z_inX9 tyX9 tyX9_ok nmX9 (ci := 7) rfl 2 (by decide) rfl (ty := .int) (by decide +kernel) t_310 0 rfl (Nat.le_of_ble_eq_true rfl) rfl rfl dX9_look_4 (fun H locs B => ?_)
  have B : zB G A s.heap [zo a0 7 [.ref a2, .ref a3, .int 1, .int 0], zo a1 0 [.ref a4, .int 0], zi G a2 16 (fun _ => 0)] _ _ := B
  refine lv_iconst (v := 0) E.x E.b dX9_look_7 (by decide) ?_
  refine lv_istore_n (lv' := [(3, .int 0), (0, .ref a0), (1, .ref a1), (2, .int 0)]) E.x E.b dX9_look_8 rfl hl (by decide) rfl (fun ls hl => ?_)
  refine lv_iload_n E.x E.b dX9_look_9 rfl (lv_at hl 0 rfl) ?_
  refine lv_aload_n E.x E.b dX9_look_10 rfl (lv_at hl 1 rfl) ?_
  refine z_get E B z_inX9 (ci := 7) rfl 2 (by decide) t_310 0 rfl rfl dX9_look_11 ?_
  refine lv_icmp_ge (tgt := 105) E.x E.b dX9_look_14 (by decide) (fun c => absurd c (by decide +kernel)) (fun _ => ?_)
  refine lv_iload_n E.x E.b dX9_look_17 rfl (lv_at hl 0 rfl) ?_
  refine lv_bipush (v := 16) E.x E.b dX9_look_18 (by decide) ?_
  refine lv_icmp_ge (tgt := 105) E.x E.b dX9_look_20 (by decide) (fun c => absurd c (by decide +kernel)) (fun _ => ?_)
  refine lv_aload_n E.x E.b dX9_look_23 rfl (lv_at hl 2 rfl) ?_
  refine lv_iload_n E.x E.b dX9_look_24 rfl (lv_at hl 0 rfl) ?_
  refine lv_iconst (v := 0) E.x E.b dX9_look_25 (by decide) ?_
  refine lv_aload_n E.x E.b dX9_look_26 rfl (lv_at hl 2 rfl) ?_
  refine z_get E B z_inX0 (ci := 0) rfl 1 (by decide) t_251 1 rfl rfl dX9_look_27 ?_
  refine z_calli E B (wc := [zo a1 0 [.ref a4, .int 0]]) (wr := [zo a0 7 [.ref a2, .ref a3, .int 1, .int 0], zi G a2 16 (fun _ => 0)]) [1] [0, 2] rfl rfl (by decide) (by decide) (z_runV E B (As := [.int 0, .int 0, .int 0]) (rest := []) [1] rfl (by decide) mv_X0_run t_1074 0 (ci := 0) rfl rfl rfl (c_X0_run_69 l G _ a1 a4) rfl rfl ⟨Nat.le_of_ble_eq_true rfl, Nat.le_of_ble_eq_true rfl⟩ rfl hl.1 rfl (Nat.le_of_ble_eq_true rfl) dX9_look_30 ⟨(Nat.le_of_ble_eq_true rfl), (Nat.le_of_ble_eq_true rfl)⟩) (fun r t H locs hp hB J => ?_)
  have hq := hB
  have B := J _ hq
  have B : zB G A s.heap [zo a0 7 [.ref a2, .ref a3, .int 1, .int 0], zi G a2 16 (fun _ => 0), zo a1 0 [.ref a4, .int 0]] _ _ := B
  have hp := hp.symm
  subst hp
  refine lv_istore (lv' := [(4, .int 0), (3, .int 0), (0, .ref a0), (1, .ref a1), (2, .int 0)]) E.x E.b dX9_look_33 hl (by decide) rfl (fun ls hl => ?_)
  refine lv_iconst (v := 0) E.x E.b dX9_look_35 (by decide) ?_
  refine lv_istore (lv' := [(5, .int 0), (4, .int 0), (3, .int 0), (0, .ref a0), (1, .ref a1), (2, .int 0)]) E.x E.b dX9_look_36 hl (by decide) rfl (fun ls hl => ?_)
  refine lv_iconst (v := 0) E.x E.b dX9_look_38 (by decide) ?_
  refine lv_istore (lv' := [(6, .int 0), (5, .int 0), (4, .int 0), (3, .int 0), (0, .ref a0), (1, .ref a1), (2, .int 0)]) E.x E.b dX9_look_39 hl (by decide) rfl (fun ls hl => ?_)
  refine lv_iload E.x E.b dX9_look_41 (lv_at hl 0 rfl) ?_
  refine lv_iconst (v := 2) E.x E.b dX9_look_43 (by decide) ?_
  refine lv_iload_n E.x E.b dX9_look_44 rfl (lv_at hl 6 rfl) ?_
  refine lv_imul E.x E.b dX9_look_45 (z_topi 0 (by decide +kernel) ?_)
  refine lv_icmp_ge (tgt := 91) E.x E.b dX9_look_46 (by decide) (fun _ => ?_) (fun c => absurd (by decide +kernel) c)
  refine lv_aload_n E.x E.b dX9_look_91 rfl (lv_at hl 4 rfl) ?_
  refine z_get E B z_inX9 (ci := 7) rfl 0 (by decide) t_307 0 rfl rfl dX9_look_92 ?_
  refine lv_iload_n E.x E.b dX9_look_95 rfl (lv_at hl 3 rfl) ?_
  refine lv_iload E.x E.b dX9_look_96 (lv_at hl 1 rfl) ?_
  refine z_iast0 E B 1 rfl (show ¬ ((0 : Int32) < 0 ∨ 16 ≤ (0 : Int32).toNatClampNeg) by decide +kernel) dX9_look_98 (fun H locs B => ?_)
  have B : zB G A s.heap [zo a0 7 [.ref a2, .ref a3, .int 1, .int 0], zi G a2 16 (fun _ => 0), zo a1 0 [.ref a4, .int 0]] _ _ := B
  refine lv_iinc (v := 1) (lv' := [(3, .int 1), (6, .int 0), (5, .int 0), (4, .int 0), (0, .ref a0), (1, .ref a1), (2, .int 0)]) E.x E.b dX9_look_99 hl (k := 3) rfl (by decide +kernel) (by decide) rfl (fun ls hl => ?_)
  refine lv_goto (tgt := 9) E.x E.b dX9_look_102 (by decide) ?_
  refine lv_iload_n E.x E.b dX9_look_9 rfl (lv_at hl 0 rfl) ?_
  refine lv_aload_n E.x E.b dX9_look_10 rfl (lv_at hl 4 rfl) ?_
  refine z_get E B z_inX9 (ci := 7) rfl 2 (by decide) t_310 0 rfl rfl dX9_look_11 ?_
  refine lv_icmp_ge (tgt := 105) E.x E.b dX9_look_14 (by decide) (fun _ => ?_) (fun c => absurd (by decide +kernel) c)
  refine W.widen (k := 0) (n := 0) (Nat.le_of_ble_eq_true rfl) (Nat.le_of_ble_eq_true rfl) ?_
  exact z_vret E hr hlocks B trivial (fun t ht => z_q B [0, 2, 1] (by decide) rfl ht) dX9_look_105
set_option maxHeartbeats 4000000 in
set_option maxRecDepth 100000 in
theorem c_X9_chooseFrom_125 (l : Launch) (G : zGT) (sz : Nat) (a0 a1 a2 : Nat) : Met l yX9_chooseFrom (.code yX9_chooseFrom cX9_chooseFrom 5 (some .boolean) :: zT) ({ frames := 0, cells := 0, slots := 0, locals := 64 }) (va_Pc [.ref a0, .int 0, .int 0, .int 0] (zPc G [zo a0 7 [.ref a1, .ref a2, .int 1, .int 0]] sz)) ((fun A => va_Qi (fun (r : Int32) (_ : Unit) => r = 1) (fun (_ : Unit) t => zQ G [zo a0 7 [.ref a1, .ref a2, .int 1, .int 0]] A t) A) (va_A [zo a0 7 [.ref a1, .ref a2, .int 1, .int 0]] sz)) 0 0 (va_A [zo a0 7 [.ref a1, .ref a2, .int 1, .int 0]] sz) := by
  refine z_start (y := yX9_chooseFrom) (bytes := cX9_chooseFrom) (maxL := 5) (ret := (some .boolean)) (av := [.ref a0, .int 0, .int 0, .int 0]) (QA := (fun A => va_Qi (fun (r : Int32) (_ : Unit) => r = 1) (fun (_ : Unit) t => zQ G [zo a0 7 [.ref a1, .ref a2, .int 1, .int 0]] A t) A)) (by decide) ⟨Nat.le_of_ble_eq_true rfl, trivial⟩ ?_
  intro p e s m below meth c A ls E B hr hlocks hin hl
  have hl : lv_has ls 5 [(0, .ref a0), (1, .int 0), (2, .int 0), (3, .int 0)] := hl
  have B : zB G A s.heap [zo a0 7 [.ref a1, .ref a2, .int 1, .int 0]] s.heap [] := B
  refine lv_iload_n E.x E.b dX9_chooseFrom_0 rfl (lv_at hl 2 rfl) ?_
  refine lv_aload_n E.x E.b dX9_chooseFrom_1 rfl (lv_at hl 0 rfl) ?_
  refine z_get E B z_inX9 (ci := 7) rfl 3 (by decide) t_311 0 rfl rfl dX9_chooseFrom_2 ?_
  refine lv_icmp_ge (tgt := 14) E.x E.b dX9_chooseFrom_5 (by decide) (fun _ => ?_) (fun c => absurd (by decide +kernel) c)
  refine lv_iload_n E.x E.b dX9_chooseFrom_14 rfl (lv_at hl 3 rfl) ?_
  refine lv_if_ne (tgt := 22) E.x E.b dX9_chooseFrom_15 (by decide) (fun c => absurd (by decide +kernel) c) (fun _ => ?_)
  refine lv_iconst (v := 1) E.x E.b dX9_chooseFrom_18 (by decide) ?_
  refine lv_goto (tgt := 23) E.x E.b dX9_chooseFrom_19 (by decide) ?_
  refine W.widen (k := 0) (n := 0) (Nat.le_of_ble_eq_true rfl) (Nat.le_of_ble_eq_true rfl) ?_
  exact z_zret E hr hlocks B (v := 1) rfl rfl (fun t ht => z_q B [0] (by decide) rfl ht) dX9_chooseFrom_23
