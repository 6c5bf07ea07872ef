set_option maxHeartbeats 4000000 in
set_option maxRecDepth 100000 in
theorem c_X11_isRow_101 (l : Launch) (G : zGT) (sz : Nat) (a0 a1 a2 a3 a4 a5 a6 a7 a8 a9 a10 a11 a12 a13 : Nat) (p0 : Int32) : Met l yX11_isRow (.code yX11_isRow cX11_isRow 2 (some .boolean) :: zT) ({ frames := 1, cells := 0, slots := 0, locals := 84 }) (va_Pc [.ref a0, .int p0] (zPc G [zo a0 9 [.ref a1, .ref a2, .ref a3, .ref a4, .ref a5, .ref a6, .ref a7, .ref a8, .ref a9, .ref a10, .ref a11, .ref a12, .ref a13, .null, .int 0, .int (-1)]] sz)) ((fun A => va_Qi (fun (r : Int32) (_ : Unit) => (p0.toInt ≤ (-1) ∧ r = 0) ∨ (1 ≤ p0.toInt ∧ r = 0) ∨ (p0.toInt = 0 ∧ r = 1)) (fun (_ : Unit) t => zQ G [zo a0 9 [.ref a1, .ref a2, .ref a3, .ref a4, .ref a5, .ref a6, .ref a7, .ref a8, .ref a9, .ref a10, .ref a11, .ref a12, .ref a13, .null, .int 0, .int (-1)]] A t) A) (va_A [zo a0 9 [.ref a1, .ref a2, .ref a3, .ref a4, .ref a5, .ref a6, .ref a7, .ref a8, .ref a9, .ref a10, .ref a11, .ref a12, .ref a13, .null, .int 0, .int (-1)]] sz)) 0 0 (va_A [zo a0 9 [.ref a1, .ref a2, .ref a3, .ref a4, .ref a5, .ref a6, .ref a7, .ref a8, .ref a9, .ref a10, .ref a11, .ref a12, .ref a13, .null, .int 0, .int (-1)]] sz) := by
  refine z_start (y := yX11_isRow) (bytes := cX11_isRow) (maxL := 2) (ret := (some .boolean)) (av := [.ref a0, .int p0]) (QA := (fun A => va_Qi (fun (r : Int32) (_ : Unit) => (p0.toInt ≤ (-1) ∧ r = 0) ∨ (1 ≤ p0.toInt ∧ r = 0) ∨ (p0.toInt = 0 ∧ r = 1)) (fun (_ : Unit) t => zQ G [zo a0 9 [.ref a1, .ref a2, .ref a3, .ref a4, .ref a5, .ref a6, .ref a7, .ref a8, .ref a9, .ref a10, .ref a11, .ref a12, .ref a13, .null, .int 0, .int (-1)]] A t) A)) (by decide) ⟨Nat.le_of_ble_eq_true rfl, trivial⟩ ?_
  intro p e s m below meth c A ls E B hr hlocks hin hl
  have hl : lv_has ls 2 [(0, .ref a0), (1, .int p0)] := hl
  have B : zB G A s.heap [zo a0 9 [.ref a1, .ref a2, .ref a3, .ref a4, .ref a5, .ref a6, .ref a7, .ref a8, .ref a9, .ref a10, .ref a11, .ref a12, .ref a13, .null, .int 0, .int (-1)]] s.heap [] := B
  refine lv_iload_n E.x E.b dX11_isRow_0 rfl (lv_at hl 1 rfl) ?_
  refine lv_if_lt (tgt := 16) E.x E.b dX11_isRow_1 (by decide) (fun c_1 => ?_) (fun c_1 => ?_)
  · have c_1f : p0.toInt < 0 := zi_lt c_1
    refine lv_iconst (v := 0) E.x E.b dX11_isRow_16 (by decide) ?_
    refine W.widen (k := 0) (n := 0) (Nat.le_of_ble_eq_true rfl) (Nat.le_of_ble_eq_true rfl) ?_
    exact z_zret E hr hlocks B (v := 0) rfl (Or.inl ⟨(by first | decide | omega), rfl⟩) (fun t ht => z_q B [0] (by decide) rfl ht) dX11_isRow_17
  · have c_1f : 0 ≤ p0.toInt := zi_nlt c_1
    refine lv_iload_n E.x E.b dX11_isRow_4 rfl (lv_at hl 1 rfl) ?_
    refine lv_aload_n E.x E.b dX11_isRow_5 rfl (lv_at hl 0 rfl) ?_
    refine z_calli E B (wc := [zo a0 9 [.ref a1, .ref a2, .ref a3, .ref a4, .ref a5, .ref a6, .ref a7, .ref a8, .ref a9, .ref a10, .ref a11, .ref a12, .ref a13, .null, .int 0, .int (-1)]]) (wr := []) [0] [] rfl rfl (by decide) (by decide) (z_runV E B (As := []) (rest := [.int p0]) [0] rfl (by decide) mv_X11_rows t_687 0 (ci := 9) rfl rfl rfl (c_X11_rows_65 l G _ a0 a1 a2 a3 a4 a5 a6 a7 a8 a9 a10 a11 a12 a13) rfl rfl ⟨Nat.le_of_ble_eq_true rfl, Nat.le_of_ble_eq_true rfl⟩ rfl hl.1 rfl (Nat.le_of_ble_eq_true rfl) dX11_isRow_6 ⟨(Nat.le_of_ble_eq_true rfl), (Nat.le_of_ble_eq_true rfl)⟩) (fun r t H locs hp hB J => ?_)
    have hq := hB
    have B := J _ hq
    have B : zB G A s.heap [zo a0 9 [.ref a1, .ref a2, .ref a3, .ref a4, .ref a5, .ref a6, .ref a7, .ref a8, .ref a9, .ref a10, .ref a11, .ref a12, .ref a13, .null, .int 0, .int (-1)]] _ _ := B
    have hp := hp.symm
    subst hp
    refine lv_icmp_ge (tgt := 16) E.x E.b dX11_isRow_9 (by decide) (fun c_2 => ?_) (fun c_2 => ?_)
    · have c_2f : 1 ≤ p0.toInt := zi_le c_2
      refine lv_iconst (v := 0) E.x E.b dX11_isRow_16 (by decide) ?_
      refine W.widen (k := 0) (n := 0) (Nat.le_of_ble_eq_true rfl) (Nat.le_of_ble_eq_true rfl) ?_
      exact z_zret E hr hlocks B (v := 0) rfl (Or.inr (Or.inl ⟨(by first | decide | omega), rfl⟩)) (fun t ht => z_q B [0] (by decide) rfl ht) dX11_isRow_17
    · have c_2f : p0.toInt < 1 := zi_nle c_2
      obtain rfl := zi_pt (x := p0) 0 (by show p0.toInt = 0; omega)
      refine lv_iconst (v := 1) E.x E.b dX11_isRow_12 (by decide) ?_
      refine lv_goto (tgt := 17) E.x E.b dX11_isRow_13 (by decide) ?_
      refine W.widen (k := 0) (n := 0) (Nat.le_of_ble_eq_true rfl) (Nat.le_of_ble_eq_true rfl) ?_
      exact z_zret E hr hlocks B (v := 1) rfl (Or.inr (Or.inr (⟨(by first | decide | omega), rfl⟩))) (fun t ht => z_q B [0] (by decide) rfl ht) dX11_isRow_17
set_option maxHeartbeats 4000000 in
set_option maxRecDepth 100000 in
theorem c_X11_made_102 (l : Launch) (G : zGT) (sz : Nat) (a0 a1 a2 a3 a4 a5 a6 a7 a8 a9 a10 a11 a12 a13 a14 : Nat) (p0 p1 : Int32) : Met l yX11_made (.code yX11_made cX11_made 3 (some .int) :: zT) ({ frames := 2, cells := 0, slots := 0, locals := 105 }) (va_Pc [.ref a0, .int p0, .int p1] (zPc G [zo a0 9 [.ref a2, .ref a3, .ref a4, .ref a1, .ref a5, .ref a6, .ref a7, .ref a8, .ref a9, .ref a10, .ref a11, .ref a12, .ref a13, .null, .int 0, .int (-1)], zo a1 0 [.ref a14, .int 0]] sz)) ((fun A => va_Qi (fun (r : Int32) (_ : Unit) => (p0.toInt ≤ (-1) ∧ r = (-1)) ∨ (1 ≤ p0.toInt ∧ r = (-1)) ∨ (p0.toInt = 0 ∧ p1.toInt ≤ (-1) ∧ r = (-1)) ∨ (p0.toInt = 0 ∧ p1.toInt = 0 ∧ r = 0) ∨ (p0.toInt = 0 ∧ 1 ≤ p1.toInt ∧ r = (-1))) (fun (_ : Unit) t => zQ G [] A t) A) (va_A [zo a0 9 [.ref a2, .ref a3, .ref a4, .ref a1, .ref a5, .ref a6, .ref a7, .ref a8, .ref a9, .ref a10, .ref a11, .ref a12, .ref a13, .null, .int 0, .int (-1)], zo a1 0 [.ref a14, .int 0]] sz)) 0 0 (va_A [zo a0 9 [.ref a2, .ref a3, .ref a4, .ref a1, .ref a5, .ref a6, .ref a7, .ref a8, .ref a9, .ref a10, .ref a11, .ref a12, .ref a13, .null, .int 0, .int (-1)], zo a1 0 [.ref a14, .int 0]] sz) := by
  refine z_start (y := yX11_made) (bytes := cX11_made) (maxL := 3) (ret := (some .int)) (av := [.ref a0, .int p0, .int p1]) (QA := (fun A => va_Qi (fun (r : Int32) (_ : Unit) => (p0.toInt ≤ (-1) ∧ r = (-1)) ∨ (1 ≤ p0.toInt ∧ r = (-1)) ∨ (p0.toInt = 0 ∧ p1.toInt ≤ (-1) ∧ r = (-1)) ∨ (p0.toInt = 0 ∧ p1.toInt = 0 ∧ r = 0) ∨ (p0.toInt = 0 ∧ 1 ≤ p1.toInt ∧ r = (-1))) (fun (_ : Unit) t => zQ G [] A t) A)) (by decide) ⟨Nat.le_of_ble_eq_true rfl, trivial⟩ ?_
  intro p e s m below meth c A ls E B hr hlocks hin hl
  have hl : lv_has ls 3 [(0, .ref a0), (1, .int p0), (2, .int p1)] := hl
  have B : zB G A s.heap [zo a0 9 [.ref a2, .ref a3, .ref a4, .ref a1, .ref a5, .ref a6, .ref a7, .ref a8, .ref a9, .ref a10, .ref a11, .ref a12, .ref a13, .null, .int 0, .int (-1)], zo a1 0 [.ref a14, .int 0]] s.heap [] := B
  refine lv_aload_n E.x E.b dX11_made_0 rfl (lv_at hl 0 rfl) ?_
  refine lv_iload_n E.x E.b dX11_made_1 rfl (lv_at hl 1 rfl) ?_
  refine z_calli E B (wc := [zo a0 9 [.ref a2, .ref a3, .ref a4, .ref a1, .ref a5, .ref a6, .ref a7, .ref a8, .ref a9, .ref a10, .ref a11, .ref a12, .ref a13, .null, .int 0, .int (-1)]]) (wr := [zo a1 0 [.ref a14, .int 0]]) [0] [1] rfl rfl (by decide) (by decide) (z_runV E B (As := [.int p0]) (rest := []) [0] rfl (by decide) mv_X11_isRow t_1003 0 (ci := 9) rfl rfl rfl (c_X11_isRow_101 l G _ a0 a2 a3 a4 a1 a5 a6 a7 a8 a9 a10 a11 a12 a13 p0) rfl rfl ⟨Nat.le_of_ble_eq_true rfl, Nat.le_of_ble_eq_true rfl⟩ rfl hl.1 rfl (Nat.le_of_ble_eq_true rfl) dX11_made_2 ⟨(Nat.le_of_ble_eq_true rfl), (Nat.le_of_ble_eq_true rfl)⟩) (fun r t H locs hp hB J => ?_)
  have hq := hB
  have B := J _ hq
  have B : zB G A s.heap [zo a1 0 [.ref a14, .int 0], zo a0 9 [.ref a2, .ref a3, .ref a4, .ref a1, .ref a5, .ref a6, .ref a7, .ref a8, .ref a9, .ref a10, .ref a11, .ref a12, .ref a13, .null, .int 0, .int (-1)]] _ _ := B
  rcases hp with ⟨c_1, rfl⟩ | ⟨c_2, rfl⟩ | ⟨c_3, rfl⟩
  · skip
    refine lv_if_eq (tgt := 23) E.x E.b dX11_made_5 (by decide) (fun _ => ?_) (fun c => absurd (by decide +kernel) c)
    refine lv_iconst (v := (-1)) E.x E.b dX11_made_23 (by decide) ?_
    refine W.widen (k := 0) (n := 0) (Nat.le_of_ble_eq_true rfl) (Nat.le_of_ble_eq_true rfl) ?_
    exact z_iret E hr hlocks B (v := (-1)) (Or.inl ⟨(by first | decide | omega), rfl⟩) (fun t ht => z_q B [] (by decide) rfl ht) dX11_made_24
  · skip
    refine lv_if_eq (tgt := 23) E.x E.b dX11_made_5 (by decide) (fun _ => ?_) (fun c => absurd (by decide +kernel) c)
    refine lv_iconst (v := (-1)) E.x E.b dX11_made_23 (by decide) ?_
    refine W.widen (k := 0) (n := 0) (Nat.le_of_ble_eq_true rfl) (Nat.le_of_ble_eq_true rfl) ?_
    exact z_iret E hr hlocks B (v := (-1)) (Or.inr (Or.inl ⟨(by first | decide | omega), rfl⟩)) (fun t ht => z_q B [] (by decide) rfl ht) dX11_made_24
  · skip
    obtain rfl := zi_pt (x := p0) 0 (by show p0.toInt = 0; omega)
    refine lv_if_eq (tgt := 23) E.x E.b dX11_made_5 (by decide) (fun c => absurd c (by decide +kernel)) (fun _ => ?_)
    refine lv_iload_n E.x E.b dX11_made_8 rfl (lv_at hl 2 rfl) ?_
    refine lv_if_lt (tgt := 23) E.x E.b dX11_made_9 (by decide) (fun c_4 => ?_) (fun c_4 => ?_)
    · have c_4f : p1.toInt < 0 := zi_lt c_4
      refine lv_iconst (v := (-1)) E.x E.b dX11_made_23 (by decide) ?_
      refine W.widen (k := 0) (n := 0) (Nat.le_of_ble_eq_true rfl) (Nat.le_of_ble_eq_true rfl) ?_
      exact z_iret E hr hlocks B (v := (-1)) (Or.inr (Or.inr (Or.inl ⟨(by first | decide | omega), (by first | decide | omega), rfl⟩))) (fun t ht => z_q B [] (by decide) rfl ht) dX11_made_24
    · have c_4f : 0 ≤ p1.toInt := zi_nlt c_4
      refine lv_iload_n E.x E.b dX11_made_12 rfl (lv_at hl 2 rfl) ?_
      refine lv_aload_n E.x E.b dX11_made_13 rfl (lv_at hl 0 rfl) ?_
      refine z_get E B z_inX11 (ci := 9) rfl 3 (by decide) t_372 1 rfl rfl dX11_made_14 ?_
      refine z_get E B z_inX0 (ci := 0) rfl 1 (by decide) t_253 0 rfl rfl dX11_made_17 ?_
      refine lv_icmp_le (tgt := 25) E.x E.b dX11_made_20 (by decide) (fun c_5 => ?_) (fun c_5 => ?_)
      · have c_5f : p1.toInt ≤ 0 := zi_le c_5
        obtain rfl := zi_pt (x := p1) 0 (by show p1.toInt = 0; omega)
        refine lv_aload_n E.x E.b dX11_made_25 rfl (lv_at hl 0 rfl) ?_
        refine z_get E B z_inX11 (ci := 9) rfl 3 (by decide) t_372 1 rfl rfl dX11_made_26 ?_
        refine lv_iload_n E.x E.b dX11_made_29 rfl (lv_at hl 1 rfl) ?_
        refine lv_iconst (v := 0) E.x E.b dX11_made_30 (by decide) ?_
        refine lv_iload_n E.x E.b dX11_made_31 rfl (lv_at hl 2 rfl) ?_
        refine z_calli E B (wc := [zo a1 0 [.ref a14, .int 0]]) (wr := [zo a0 9 [.ref a2, .ref a3, .ref a4, .ref a1, .ref a5, .ref a6, .ref a7, .ref a8, .ref a9, .ref a10, .ref a11, .ref a12, .ref a13, .null, .int 0, .int (-1)]]) [0] [1] rfl rfl (by decide) (by decide) (z_runV E B (As := [.int 0, .int 0, .int 0]) (rest := []) [0] rfl (by decide) mv_X0_run t_1007 0 (ci := 0) rfl rfl rfl (c_X0_run_69 l G _ a1 a14) rfl rfl ⟨Nat.le_of_ble_eq_true rfl, Nat.le_of_ble_eq_true rfl⟩ rfl hl.1 rfl (Nat.le_of_ble_eq_true rfl) dX11_made_32 ⟨(Nat.le_of_ble_eq_true rfl), (Nat.le_of_ble_eq_true rfl)⟩) (fun r t H locs hp hB J => ?_)
        have hq := hB
        have B := J _ hq
        have B : zB G A s.heap [zo a0 9 [.ref a2, .ref a3, .ref a4, .ref a1, .ref a5, .ref a6, .ref a7, .ref a8, .ref a9, .ref a10, .ref a11, .ref a12, .ref a13, .null, .int 0, .int (-1)], zo a1 0 [.ref a14, .int 0]] _ _ := B
        have hp := hp.symm
        subst hp
        refine W.widen (k := 0) (n := 0) (Nat.le_of_ble_eq_true rfl) (Nat.le_of_ble_eq_true rfl) ?_
        exact z_iret E hr hlocks B (v := 0) (Or.inr (Or.inr (Or.inr (Or.inl ⟨(by first | decide | omega), (by first | decide | omega), rfl⟩)))) (fun t ht => z_q B [] (by decide) rfl ht) dX11_made_35
      · have c_5f : 0 < p1.toInt := zi_nle c_5
        refine lv_iconst (v := (-1)) E.x E.b dX11_made_23 (by decide) ?_
        refine W.widen (k := 0) (n := 0) (Nat.le_of_ble_eq_true rfl) (Nat.le_of_ble_eq_true rfl) ?_
        exact z_iret E hr hlocks B (v := (-1)) (Or.inr (Or.inr (Or.inr (Or.inr (⟨(by first | decide | omega), (by first | decide | omega), rfl⟩))))) (fun t ht => z_q B [] (by decide) rfl ht) dX11_made_24
set_option maxHeartbeats 4000000 in
set_option maxRecDepth 100000 in
theorem c_X0_runBack_103 (l : Launch) (G : zGT) (sz : Nat) (a0 a1 : Nat) : Met l yX0_runBack (.code yX0_runBack cX0_runBack 4 (some .int) :: zT) ({ frames := 0, cells := 0, slots := 0, locals := 64 }) (va_Pc [.ref a0, .int 0] (zPc G [zo a0 0 [.ref a1, .int 0]] sz)) ((fun A => va_Qi (fun (r : Int32) (_ : Unit) => r = 0) (fun (_ : Unit) t => zQ G [zo a0 0 [.ref a1, .int 0]] A t) A) (va_A [zo a0 0 [.ref a1, .int 0]] sz)) 0 0 (va_A [zo a0 0 [.ref a1, .int 0]] sz) := by
  refine z_start (y := yX0_runBack) (bytes := cX0_runBack) (maxL := 4) (ret := (some .int)) (av := [.ref a0, .int 0]) (QA := (fun A => va_Qi (fun (r : Int32) (_ : Unit) => r = 0) (fun (_ : Unit) t => zQ G [zo a0 0 [.ref a1, .int 0]] A t) A)) (by decide) ⟨Nat.le_of_ble_eq_true rfl, trivial⟩ ?_
  intro p e s m below meth c A ls E B hr hlocks hin hl
  have hl : lv_has ls 4 [(0, .ref a0), (1, .int 0)] := hl
  have B : zB G A s.heap [zo a0 0 [.ref a1, .int 0]] s.heap [] := B
  refine lv_iload_n E.x E.b dX0_runBack_0 rfl (lv_at hl 1 rfl) ?_
  refine lv_istore_n (lv' := [(2, .int 0), (0, .ref a0), (1, .int 0)]) E.x E.b dX0_runBack_1 rfl hl (by decide) rfl (fun ls hl => ?_)
  refine lv_aload_n E.x E.b dX0_runBack_2 rfl (lv_at hl 1 rfl) ?_
  refine z_get E B z_inX0 (ci := 0) rfl 1 (by decide) t_250 0 rfl rfl dX0_runBack_3 ?_
  refine lv_iconst (v := 1) E.x E.b dX0_runBack_6 (by decide) ?_
  refine lv_isub E.x E.b dX0_runBack_7 (z_topi (-1) (by decide +kernel) ?_)
  refine lv_istore_n (lv' := [(3, .int (-1)), (2, .int 0), (0, .ref a0), (1, .int 0)]) E.x E.b dX0_runBack_8 rfl hl (by decide) rfl (fun ls hl => ?_)
  refine lv_iload_n E.x E.b dX0_runBack_9 rfl (lv_at hl 0 rfl) ?_
  refine lv_if_lt (tgt := 29) E.x E.b dX0_runBack_10 (by decide) (fun _ => ?_) (fun c => absurd (by decide +kernel) c)
  refine lv_iload_n E.x E.b dX0_runBack_29 rfl (lv_at hl 1 rfl) ?_
  refine W.widen (k := 0) (n := 0) (Nat.le_of_ble_eq_true rfl) (Nat.le_of_ble_eq_true rfl) ?_
  exact z_iret E hr hlocks B (v := 0) rfl (fun t ht => z_q B [0] (by decide) rfl ht) dX0_runBack_30
set_option maxHeartbeats 4000000 in
set_option maxRecDepth 100000 in
theorem c_X11_undone_104 (l : Launch) (G : zGT) (sz : Nat) (a0 a1 a2 a3 a4 a5 a6 a7 a8 a9 a10 a11 a12 a13 a14 : Nat) (p0 : Int32) : Met l yX11_undone (.code yX11_undone cX11_undone 2 (some .int) :: zT) ({ frames := 2, cells := 0, slots := 0, locals := 105 }) (va_Pc [.ref a0, .int p0] (zPc G [zo a0 9 [.ref a2, .ref a3, .ref a4, .ref a1, .ref a5, .ref a6, .ref a7, .ref a8, .ref a9, .ref a10, .ref a11, .ref a12, .ref a13, .null, .int 0, .int (-1)], zo a1 0 [.ref a14, .int 0]] sz)) ((fun A => va_Qi (fun (r : Int32) (_ : Unit) => (p0.toInt ≤ (-1) ∧ r = (-1)) ∨ (1 ≤ p0.toInt ∧ r = (-1)) ∨ (p0.toInt = 0 ∧ r = 0)) (fun (_ : Unit) t => zQ G [] A t) A) (va_A [zo a0 9 [.ref a2, .ref a3, .ref a4, .ref a1, .ref a5, .ref a6, .ref a7, .ref a8, .ref a9, .ref a10, .ref a11, .ref a12, .ref a13, .null, .int 0, .int (-1)], zo a1 0 [.ref a14, .int 0]] sz)) 0 0 (va_A [zo a0 9 [.ref a2, .ref a3, .ref a4, .ref a1, .ref a5, .ref a6, .ref a7, .ref a8, .ref a9, .ref a10, .ref a11, .ref a12, .ref a13, .null, .int 0, .int (-1)], zo a1 0 [.ref a14, .int 0]] sz) := by
  refine z_start (y := yX11_undone) (bytes := cX11_undone) (maxL := 2) (ret := (some .int)) (av := [.ref a0, .int p0]) (QA := (fun A => va_Qi (fun (r : Int32) (_ : Unit) => (p0.toInt ≤ (-1) ∧ r = (-1)) ∨ (1 ≤ p0.toInt ∧ r = (-1)) ∨ (p0.toInt = 0 ∧ r = 0)) (fun (_ : Unit) t => zQ G [] A t) A)) (by decide) ⟨Nat.le_of_ble_eq_true rfl, trivial⟩ ?_
  intro p e s m below meth c A ls E B hr hlocks hin hl
  have hl : lv_has ls 2 [(0, .ref a0), (1, .int p0)] := hl
  have B : zB G A s.heap [zo a0 9 [.ref a2, .ref a3, .ref a4, .ref a1, .ref a5, .ref a6, .ref a7, .ref a8, .ref a9, .ref a10, .ref a11, .ref a12, .ref a13, .null, .int 0, .int (-1)], zo a1 0 [.ref a14, .int 0]] s.heap [] := B
  refine lv_aload_n E.x E.b dX11_undone_0 rfl (lv_at hl 0 rfl) ?_
  refine lv_iload_n E.x E.b dX11_undone_1 rfl (lv_at hl 1 rfl) ?_
  refine z_calli E B (wc := [zo a0 9 [.ref a2, .ref a3, .ref a4, .ref a1, .ref a5, .ref a6, .ref a7, .ref a8, .ref a9, .ref a10, .ref a11, .ref a12, .ref a13, .null, .int 0, .int (-1)]]) (wr := [zo a1 0 [.ref a14, .int 0]]) [0] [1] rfl rfl (by decide) (by decide) (z_runV E B (As := [.int p0]) (rest := []) [0] rfl (by decide) mv_X11_isRow t_1003 0 (ci := 9) rfl rfl rfl (c_X11_isRow_101 l G _ a0 a2 a3 a4 a1 a5 a6 a7 a8 a9 a10 a11 a12 a13 p0) rfl rfl ⟨Nat.le_of_ble_eq_true rfl, Nat.le_of_ble_eq_true rfl⟩ rfl hl.1 rfl (Nat.le_of_ble_eq_true rfl) dX11_undone_2 ⟨(Nat.le_of_ble_eq_true rfl), (Nat.le_of_ble_eq_true rfl)⟩) (fun r t H locs hp hB J => ?_)
  have hq := hB
  have B := J _ hq
  have B : zB G A s.heap [zo a1 0 [.ref a14, .int 0], zo a0 9 [.ref a2, .ref a3, .ref a4, .ref a1, .ref a5, .ref a6, .ref a7, .ref a8, .ref a9, .ref a10, .ref a11, .ref a12, .ref a13, .null, .int 0, .int (-1)]] _ _ := B
  rcases hp with ⟨c_1, rfl⟩ | ⟨c_2, rfl⟩ | ⟨c_3, rfl⟩
  · skip
    refine lv_if_eq (tgt := 19) E.x E.b dX11_undone_5 (by decide) (fun _ => ?_) (fun c => absurd (by decide +kernel) c)
    refine lv_iconst (v := (-1)) E.x E.b dX11_undone_19 (by decide) ?_
    refine W.widen (k := 0) (n := 0) (Nat.le_of_ble_eq_true rfl) (Nat.le_of_ble_eq_true rfl) ?_
    exact z_iret E hr hlocks B (v := (-1)) (Or.inl ⟨(by first | decide | omega), rfl⟩) (fun t ht => z_q B [] (by decide) rfl ht) dX11_undone_20
  · skip
    refine lv_if_eq (tgt := 19) E.x E.b dX11_undone_5 (by decide) (fun _ => ?_) (fun c => absurd (by decide +kernel) c)
    refine lv_iconst (v := (-1)) E.x E.b dX11_undone_19 (by decide) ?_
    refine W.widen (k := 0) (n := 0) (Nat.le_of_ble_eq_true rfl) (Nat.le_of_ble_eq_true rfl) ?_
    exact z_iret E hr hlocks B (v := (-1)) (Or.inr (Or.inl ⟨(by first | decide | omega), rfl⟩)) (fun t ht => z_q B [] (by decide) rfl ht) dX11_undone_20
  · skip
    obtain rfl := zi_pt (x := p0) 0 (by show p0.toInt = 0; omega)
    refine lv_if_eq (tgt := 19) E.x E.b dX11_undone_5 (by decide) (fun c => absurd c (by decide +kernel)) (fun _ => ?_)
    refine lv_aload_n E.x E.b dX11_undone_8 rfl (lv_at hl 0 rfl) ?_
    refine z_get E B z_inX11 (ci := 9) rfl 3 (by decide) t_372 1 rfl rfl dX11_undone_9 ?_
    refine lv_iload_n E.x E.b dX11_undone_12 rfl (lv_at hl 1 rfl) ?_
    refine z_calli E B (wc := [zo a1 0 [.ref a14, .int 0]]) (wr := [zo a0 9 [.ref a2, .ref a3, .ref a4, .ref a1, .ref a5, .ref a6, .ref a7, .ref a8, .ref a9, .ref a10, .ref a11, .ref a12, .ref a13, .null, .int 0, .int (-1)]]) [0] [1] rfl rfl (by decide) (by decide) (z_runV E B (As := [.int 0]) (rest := []) [0] rfl (by decide) mv_X0_runBack t_1012 0 (ci := 0) rfl rfl rfl (c_X0_runBack_103 l G _ a1 a14) rfl rfl ⟨Nat.le_of_ble_eq_true rfl, Nat.le_of_ble_eq_true rfl⟩ rfl hl.1 rfl (Nat.le_of_ble_eq_true rfl) dX11_undone_13 ⟨(Nat.le_of_ble_eq_true rfl), (Nat.le_of_ble_eq_true rfl)⟩) (fun r t H locs hp hB J => ?_)
    have hq := hB
    have B := J _ hq
    have B : zB G A s.heap [zo a0 9 [.ref a2, .ref a3, .ref a4, .ref a1, .ref a5, .ref a6, .ref a7, .ref a8, .ref a9, .ref a10, .ref a11, .ref a12, .ref a13, .null, .int 0, .int (-1)], zo a1 0 [.ref a14, .int 0]] _ _ := B
    have hp := hp.symm
    subst hp
    refine lv_goto (tgt := 20) E.x E.b dX11_undone_16 (by decide) ?_
    refine W.widen (k := 0) (n := 0) (Nat.le_of_ble_eq_true rfl) (Nat.le_of_ble_eq_true rfl) ?_
    exact z_iret E hr hlocks B (v := 0) (Or.inr (Or.inr (⟨(by first | decide | omega), rfl⟩))) (fun t ht => z_q B [] (by decide) rfl ht) dX11_undone_20
set_option maxHeartbeats 4000000 in
set_option maxRecDepth 100000 in
theorem c_X6_lengthFrom_105 (l : Launch) (G : zGT) (sz : Nat) (a0 : Nat) : Met l yX6_lengthFrom (.code yX6_lengthFrom cX6_lengthFrom 5 (some .int) :: zT) ({ frames := 0, cells := 0, slots := 0, locals := 64 }) (va_Pc [.int 0, .ref a0, .int 1] (zPc G [zi G a0 64 (fun _ => 0)] sz)) ((fun A => va_Qi (fun (r : Int32) (_ : Unit) => r = 1) (fun (_ : Unit) t => zQ G [zi G a0 64 (fun _ => 0)] A t) A) (va_A [zi G a0 64 (fun _ => 0)] sz)) 0 0 (va_A [zi G a0 64 (fun _ => 0)] sz) := by
  refine z_start (y := yX6_lengthFrom) (bytes := cX6_lengthFrom) (maxL := 5) (ret := (some .int)) (av := [.int 0, .ref a0, .int 1]) (QA := (fun A => va_Qi (fun (r : Int32) (_ : Unit) => r = 1) (fun (_ : Unit) t => zQ G [zi G a0 64 (fun _ => 0)] A t) A)) (by decide) ⟨Nat.le_of_ble_eq_true rfl, trivial⟩ ?_
  intro p e s m below meth c A ls E B hr hlocks hin hl
  have hl : lv_has ls 5 [(0, .int 0), (1, .ref a0), (2, .int 1)] := hl
  have B : zB G A s.heap [zi G a0 64 (fun _ => 0)] s.heap [] := B
  refine lv_iload_n E.x E.b dX6_lengthFrom_0 rfl (lv_at hl 0 rfl) ?_
  refine lv_istore_n (lv' := [(3, .int 0), (0, .int 0), (1, .ref a0), (2, .int 1)]) E.x E.b dX6_lengthFrom_1 rfl hl (by decide) rfl (fun ls hl => ?_)
  refine lv_iconst (v := 1) E.x E.b dX6_lengthFrom_2 (by decide) ?_
  refine lv_istore (lv' := [(4, .int 1), (3, .int 0), (0, .int 0), (1, .ref a0), (2, .int 1)]) E.x E.b dX6_lengthFrom_3 hl (by decide) rfl (fun ls hl => ?_)
  refine lv_iload E.x E.b dX6_lengthFrom_5 (lv_at hl 0 rfl) ?_
  refine lv_iload_n E.x E.b dX6_lengthFrom_7 rfl (lv_at hl 4 rfl) ?_
  refine lv_icmp_gt (tgt := 50) E.x E.b dX6_lengthFrom_8 (by decide) (fun c => absurd c (by decide +kernel)) (fun _ => ?_)
  refine lv_iload_n E.x E.b dX6_lengthFrom_11 rfl (lv_at hl 1 rfl) ?_
  refine lv_if_lt (tgt := 27) E.x E.b dX6_lengthFrom_12 (by decide) (fun c => absurd c (by decide +kernel)) (fun _ => ?_)
  refine lv_iload_n E.x E.b dX6_lengthFrom_15 rfl (lv_at hl 1 rfl) ?_
  refine lv_aload_n E.x E.b dX6_lengthFrom_16 rfl (lv_at hl 3 rfl) ?_
  refine z_ilen E B 0 rfl (v := 64) (by decide +kernel) dX6_lengthFrom_17 ?_
  refine lv_icmp_ge (tgt := 27) E.x E.b dX6_lengthFrom_18 (by decide) (fun c => absurd c (by decide +kernel)) (fun _ => ?_)
  refine lv_aload_n E.x E.b dX6_lengthFrom_21 rfl (lv_at hl 3 rfl) ?_
  refine lv_iload_n E.x E.b dX6_lengthFrom_22 rfl (lv_at hl 1 rfl) ?_
  refine z_iald E B 0 rfl (show ¬ ((0 : Int32) < 0 ∨ 64 ≤ (0 : Int32).toNatClampNeg) by decide +kernel) dX6_lengthFrom_23 (z_topi 0 rfl ?_)
  refine lv_goto (tgt := 28) E.x E.b dX6_lengthFrom_24 (by decide) ?_
  refine lv_istore_n (lv' := [(3, .int 0), (4, .int 1), (0, .int 0), (1, .ref a0), (2, .int 1)]) E.x E.b dX6_lengthFrom_28 rfl hl (by decide) rfl (fun ls hl => ?_)
  refine lv_iload_n E.x E.b dX6_lengthFrom_29 rfl (lv_at hl 0 rfl) ?_
  refine lv_iload_n E.x E.b dX6_lengthFrom_30 rfl (lv_at hl 2 rfl) ?_
  refine lv_icmp_ne (tgt := 37) E.x E.b dX6_lengthFrom_31 (by decide) (fun c => absurd (by decide +kernel) c) (fun _ => ?_)
  refine lv_iload E.x E.b dX6_lengthFrom_34 (lv_at hl 1 rfl) ?_
  refine W.widen (k := 0) (n := 0) (Nat.le_of_ble_eq_true rfl) (Nat.le_of_ble_eq_true rfl) ?_
  exact z_iret E hr hlocks B (v := 1) rfl (fun t ht => z_q B [0] (by decide) rfl ht) dX6_lengthFrom_36
set_option maxHeartbeats 4000000 in
set_option maxRecDepth 100000 in
theorem c_X6_howMany_106 (l : Launch) (G : zGT) (sz : Nat) (a0 : Nat) : Met l yX6_howMany (.code yX6_howMany cX6_howMany 4 (some .int) :: zT) ({ frames := 1, cells := 0, slots := 0, locals := 88 }) (va_Pc [.ref a0, .int 1] (zPc G [zi G a0 64 (fun _ => 0)] sz)) ((fun A => va_Qi (fun (r : Int32) (_ : Unit) => r = 1) (fun (_ : Unit) t => zQ G [zi G a0 64 (fun _ => 0)] A t) A) (va_A [zi G a0 64 (fun _ => 0)] sz)) 0 0 (va_A [zi G a0 64 (fun _ => 0)] sz) := by
  refine z_start (y := yX6_howMany) (bytes := cX6_howMany) (maxL := 4) (ret := (some .int)) (av := [.ref a0, .int 1]) (QA := (fun A => va_Qi (fun (r : Int32) (_ : Unit) => r = 1) (fun (_ : Unit) t => zQ G [zi G a0 64 (fun _ => 0)] A t) A)) (by decide) ⟨Nat.le_of_ble_eq_true rfl, trivial⟩ ?_
  intro p e s m below meth c A ls E B hr hlocks hin hl
  have hl : lv_has ls 4 [(0, .ref a0), (1, .int 1)] := hl
  have B : zB G A s.heap [zi G a0 64 (fun _ => 0)] s.heap [] := B
  refine lv_iconst (v := 0) E.x E.b dX6_howMany_0 (by decide) ?_
  refine lv_istore_n (lv' := [(2, .int 0), (0, .ref a0), (1, .int 1)]) E.x E.b dX6_howMany_1 rfl hl (by decide) rfl (fun ls hl => ?_)
  refine lv_iconst (v := 0) E.x E.b dX6_howMany_2 (by decide) ?_
  refine lv_istore_n (lv' := [(3, .int 0), (2, .int 0), (0, .ref a0), (1, .int 1)]) E.x E.b dX6_howMany_3 rfl hl (by decide) rfl (fun ls hl => ?_)
  refine lv_iload_n E.x E.b dX6_howMany_4 rfl (lv_at hl 0 rfl) ?_
  refine lv_iload_n E.x E.b dX6_howMany_5 rfl (lv_at hl 3 rfl) ?_
  refine lv_icmp_ge (tgt := 32) E.x E.b dX6_howMany_6 (by decide) (fun c => absurd c (by decide +kernel)) (fun _ => ?_)
  refine lv_iload_n E.x E.b dX6_howMany_9 rfl (lv_at hl 1 rfl) ?_
  refine lv_iload_n E.x E.b dX6_howMany_10 rfl (lv_at hl 0 rfl) ?_
  refine lv_aload_n E.x E.b dX6_howMany_11 rfl (lv_at hl 2 rfl) ?_
  refine lv_iload_n E.x E.b dX6_howMany_12 rfl (lv_at hl 3 rfl) ?_
  refine z_calli E B (wc := [zi G a0 64 (fun _ => 0)]) (wr := []) [0] [] rfl rfl (by decide) (by decide) (z_runS E B (As := [.int 0, .ref a0, .int 1]) (rest := [.int 0]) [0] rfl (by decide) ms_X6_lengthFrom t_1023 (c_X6_lengthFrom_105 l G _ a0) rfl rfl ⟨Nat.le_of_ble_eq_true rfl, Nat.le_of_ble_eq_true rfl⟩ rfl hl.1 rfl (Nat.le_of_ble_eq_true rfl) dX6_howMany_13 ⟨(Nat.le_of_ble_eq_true rfl), (Nat.le_of_ble_eq_true rfl)⟩) (fun r t H locs hp hB J => ?_)
  have hq := hB
  have B := J _ hq
  have B : zB G A s.heap [zi G a0 64 (fun _ => 0)] _ _ := B
  have hp := hp.symm
  subst hp
  refine lv_if_le (tgt := 23) E.x E.b dX6_howMany_16 (by decide) (fun c => absurd c (by decide +kernel)) (fun _ => ?_)
  refine lv_iconst (v := 1) E.x E.b dX6_howMany_19 (by decide) ?_
  refine lv_goto (tgt := 24) E.x E.b dX6_howMany_20 (by decide) ?_
  refine lv_iadd E.x E.b dX6_howMany_24 (z_topi 1 (by decide +kernel) ?_)
  refine lv_istore_n (lv' := [(2, .int 1), (3, .int 0), (0, .ref a0), (1, .int 1)]) E.x E.b dX6_howMany_25 rfl hl (by decide) rfl (fun ls hl => ?_)
  refine lv_iinc (v := 1) (lv' := [(3, .int 1), (2, .int 1), (0, .ref a0), (1, .int 1)]) E.x E.b dX6_howMany_26 hl (k := 1) rfl (by decide +kernel) (by decide) rfl (fun ls hl => ?_)
  refine lv_goto (tgt := 4) E.x E.b dX6_howMany_29 (by decide) ?_
  refine lv_iload_n E.x E.b dX6_howMany_4 rfl (lv_at hl 0 rfl) ?_
  refine lv_iload_n E.x E.b dX6_howMany_5 rfl (lv_at hl 3 rfl) ?_
  refine lv_icmp_ge (tgt := 32) E.x E.b dX6_howMany_6 (by decide) (fun _ => ?_) (fun c => absurd (by decide +kernel) c)
  refine lv_iload_n E.x E.b dX6_howMany_32 rfl (lv_at hl 1 rfl) ?_
  refine W.widen (k := 0) (n := 0) (Nat.le_of_ble_eq_true rfl) (Nat.le_of_ble_eq_true rfl) ?_
  exact z_iret E hr hlocks B (v := 1) rfl (fun t ht => z_q B [0] (by decide) rfl ht) dX6_howMany_33
set_option maxHeartbeats 4000000 in
set_option maxRecDepth 100000 in
theorem c_X6_longest_107 (l : Launch) (G : zGT) (sz : Nat) (a0 : Nat) : Met l yX6_longest (.code yX6_longest cX6_longest 4 (some .int) :: zT) ({ frames := 1, cells := 0, slots := 0, locals := 88 }) (va_Pc [.ref a0, .int 1] (zPc G [zi G a0 64 (fun _ => 0)] sz)) ((fun A => va_Qi (fun (r : Int32) (_ : Unit) => r = 1) (fun (_ : Unit) t => zQ G [zi G a0 64 (fun _ => 0)] A t) A) (va_A [zi G a0 64 (fun _ => 0)] sz)) 0 0 (va_A [zi G a0 64 (fun _ => 0)] sz) := by
  refine z_start (y := yX6_longest) (bytes := cX6_longest) (maxL := 4) (ret := (some .int)) (av := [.ref a0, .int 1]) (QA := (fun A => va_Qi (fun (r : Int32) (_ : Unit) => r = 1) (fun (_ : Unit) t => zQ G [zi G a0 64 (fun _ => 0)] A t) A)) (by decide) ⟨Nat.le_of_ble_eq_true rfl, trivial⟩ ?_
  intro p e s m below meth c A ls E B hr hlocks hin hl
  have hl : lv_has ls 4 [(0, .ref a0), (1, .int 1)] := hl
  have B : zB G A s.heap [zi G a0 64 (fun _ => 0)] s.heap [] := B
  refine lv_iconst (v := 0) E.x E.b dX6_longest_0 (by decide) ?_
  refine lv_istore_n (lv' := [(2, .int 0), (0, .ref a0), (1, .int 1)]) E.x E.b dX6_longest_1 rfl hl (by decide) rfl (fun ls hl => ?_)
  refine lv_iconst (v := 0) E.x E.b dX6_longest_2 (by decide) ?_
  refine lv_istore_n (lv' := [(3, .int 0), (2, .int 0), (0, .ref a0), (1, .int 1)]) E.x E.b dX6_longest_3 rfl hl (by decide) rfl (fun ls hl => ?_)
  refine lv_iload_n E.x E.b dX6_longest_4 rfl (lv_at hl 0 rfl) ?_
  refine lv_iload_n E.x E.b dX6_longest_5 rfl (lv_at hl 3 rfl) ?_
  refine lv_icmp_ge (tgt := 26) E.x E.b dX6_longest_6 (by decide) (fun c => absurd c (by decide +kernel)) (fun _ => ?_)
  refine lv_iload_n E.x E.b dX6_longest_9 rfl (lv_at hl 1 rfl) ?_
  refine lv_iload_n E.x E.b dX6_longest_10 rfl (lv_at hl 0 rfl) ?_
  refine lv_aload_n E.x E.b dX6_longest_11 rfl (lv_at hl 2 rfl) ?_
  refine lv_iload_n E.x E.b dX6_longest_12 rfl (lv_at hl 3 rfl) ?_
  refine z_calli E B (wc := [zi G a0 64 (fun _ => 0)]) (wr := []) [0] [] rfl rfl (by decide) (by decide) (z_runS E B (As := [.int 0, .ref a0, .int 1]) (rest := [.int 0]) [0] rfl (by decide) ms_X6_lengthFrom t_1023 (c_X6_lengthFrom_105 l G _ a0) rfl rfl ⟨Nat.le_of_ble_eq_true rfl, Nat.le_of_ble_eq_true rfl⟩ rfl hl.1 rfl (Nat.le_of_ble_eq_true rfl) dX6_longest_13 ⟨(Nat.le_of_ble_eq_true rfl), (Nat.le_of_ble_eq_true rfl)⟩) (fun r t H locs hp hB J => ?_)
  have hq := hB
  have B := J _ hq
  have B : zB G A s.heap [zi G a0 64 (fun _ => 0)] _ _ := B
  have hp := hp.symm
  subst hp
  refine va_mmax E.x E.b (E.1.2.2.1.trans hl.1.symm) E.ow (E.w t_mlX6_13) (E.w t_mmax1) (E.w t_127) (E.w t_mmax2) (Nat.le_of_ble_eq_true rfl) (Nat.le_of_ble_eq_true rfl) (Nat.le_of_ble_eq_true rfl) (Nat.le_of_ble_eq_true rfl) dX6_longest_16 (z_topi 1 (by decide +kernel) ?_)
  refine lv_istore_n (lv' := [(2, .int 1), (3, .int 0), (0, .ref a0), (1, .int 1)]) E.x E.b dX6_longest_19 rfl hl (by decide) rfl (fun ls hl => ?_)
  refine lv_iinc (v := 1) (lv' := [(3, .int 1), (2, .int 1), (0, .ref a0), (1, .int 1)]) E.x E.b dX6_longest_20 hl (k := 1) rfl (by decide +kernel) (by decide) rfl (fun ls hl => ?_)
  refine lv_goto (tgt := 4) E.x E.b dX6_longest_23 (by decide) ?_
  refine lv_iload_n E.x E.b dX6_longest_4 rfl (lv_at hl 0 rfl) ?_
  refine lv_iload_n E.x E.b dX6_longest_5 rfl (lv_at hl 3 rfl) ?_
  refine lv_icmp_ge (tgt := 26) E.x E.b dX6_longest_6 (by decide) (fun _ => ?_) (fun c => absurd (by decide +kernel) c)
  refine lv_iload_n E.x E.b dX6_longest_26 rfl (lv_at hl 1 rfl) ?_
  refine W.widen (k := 0) (n := 0) (Nat.le_of_ble_eq_true rfl) (Nat.le_of_ble_eq_true rfl) ?_
  exact z_iret E hr hlocks B (v := 1) rfl (fun t ht => z_q B [0] (by decide) rfl ht) dX6_longest_27
set_option maxHeartbeats 4000000 in
set_option maxRecDepth 100000 in
theorem c_X6_leastCommonMultiple_108 (l : Launch) (G : zGT) (sz : Nat) : Met l yX6_leastCommonMultiple (.code yX6_leastCommonMultiple cX6_leastCommonMultiple 4 (some .int) :: zT) ({ frames := 0, cells := 0, slots := 0, locals := 64 }) (va_Pc [.int 1, .int 1, .int 1] (zPc G [] sz)) ((fun A => va_Qi (fun (r : Int32) (_ : Unit) => r = 1) (fun (_ : Unit) t => zQ G [] A t) A) (va_A [] sz)) 0 0 (va_A [] sz) := by
  refine z_start (y := yX6_leastCommonMultiple) (bytes := cX6_leastCommonMultiple) (maxL := 4) (ret := (some .int)) (av := [.int 1, .int 1, .int 1]) (QA := (fun A => va_Qi (fun (r : Int32) (_ : Unit) => r = 1) (fun (_ : Unit) t => zQ G [] A t) A)) (by decide) ⟨Nat.le_of_ble_eq_true rfl, trivial⟩ ?_
  intro p e s m below meth c A ls E B hr hlocks hin hl
  have hl : lv_has ls 4 [(0, .int 1), (1, .int 1), (2, .int 1)] := hl
  have B : zB G A s.heap [] s.heap [] := B
  refine lv_iconst (v := 1) E.x E.b dX6_leastCommonMultiple_0 (by decide) ?_
  refine lv_istore_n (lv' := [(3, .int 1), (0, .int 1), (1, .int 1), (2, .int 1)]) E.x E.b dX6_leastCommonMultiple_1 rfl hl (by decide) rfl (fun ls hl => ?_)
  refine lv_iload_n E.x E.b dX6_leastCommonMultiple_2 rfl (lv_at hl 0 rfl) ?_
  refine lv_iload_n E.x E.b dX6_leastCommonMultiple_3 rfl (lv_at hl 3 rfl) ?_
  refine lv_icmp_gt (tgt := 29) E.x E.b dX6_leastCommonMultiple_4 (by decide) (fun c => absurd c (by decide +kernel)) (fun _ => ?_)
  refine lv_iload_n E.x E.b dX6_leastCommonMultiple_7 rfl (lv_at hl 2 rfl) ?_
  refine lv_if_le (tgt := 23) E.x E.b dX6_leastCommonMultiple_8 (by decide) (fun c => absurd c (by decide +kernel)) (fun _ => ?_)
  refine lv_iload_n E.x E.b dX6_leastCommonMultiple_11 rfl (lv_at hl 1 rfl) ?_
  refine lv_iload_n E.x E.b dX6_leastCommonMultiple_12 rfl (lv_at hl 0 rfl) ?_
  refine lv_imul E.x E.b dX6_leastCommonMultiple_13 (z_topi 1 (by decide +kernel) ?_)
  refine lv_iload_n E.x E.b dX6_leastCommonMultiple_14 rfl (lv_at hl 2 rfl) ?_
  refine lv_irem E.x E.b dX6_leastCommonMultiple_15 (by decide) (z_topi 0 (by decide +kernel) ?_)
  refine lv_if_ne (tgt := 23) E.x E.b dX6_leastCommonMultiple_16 (by decide) (fun c => absurd (by decide +kernel) c) (fun _ => ?_)
  refine lv_iload_n E.x E.b dX6_leastCommonMultiple_19 rfl (lv_at hl 1 rfl) ?_
  refine lv_iload_n E.x E.b dX6_leastCommonMultiple_20 rfl (lv_at hl 0 rfl) ?_
  refine lv_imul E.x E.b dX6_leastCommonMultiple_21 (z_topi 1 (by decide +kernel) ?_)
  refine W.widen (k := 0) (n := 0) (Nat.le_of_ble_eq_true rfl) (Nat.le_of_ble_eq_true rfl) ?_
  exact z_iret E hr hlocks B (v := 1) rfl (fun t ht => z_q B [] (by decide) rfl ht) dX6_leastCommonMultiple_22
set_option maxHeartbeats 4000000 in
set_option maxRecDepth 100000 in
theorem c_X6_times_109 (l : Launch) (G : zGT) (sz : Nat) (a0 : Nat) : Met l yX6_times (.code yX6_times cX6_times 5 (some .int) :: zT) ({ frames := 1, cells := 0, slots := 0, locals := 88 }) (va_Pc [.ref a0, .int 1] (zPc G [zi G a0 64 (fun _ => 0)] sz)) ((fun A => va_Qi (fun (r : Int32) (_ : Unit) => r = 1) (fun (_ : Unit) t => zQ G [zi G a0 64 (fun _ => 0)] A t) A) (va_A [zi G a0 64 (fun _ => 0)] sz)) 0 0 (va_A [zi G a0 64 (fun _ => 0)] sz) := by
  refine z_start (y := yX6_times) (bytes := cX6_times) (maxL := 5) (ret := (some .int)) (av := [.ref a0, .int 1]) (QA := (fun A => va_Qi (fun (r : Int32) (_ : Unit) => r = 1) (fun (_ : Unit) t => zQ G [zi G a0 64 (fun _ => 0)] A t) A)) (by decide) ⟨Nat.le_of_ble_eq_true rfl, trivial⟩ ?_
  intro p e s m below meth c A ls E B hr hlocks hin hl
  have hl : lv_has ls 5 [(0, .ref a0), (1, .int 1)] := hl
  have B : zB G A s.heap [zi G a0 64 (fun _ => 0)] s.heap [] := B
  refine lv_iconst (v := 1) E.x E.b dX6_times_0 (by decide) ?_
  refine lv_istore_n (lv' := [(2, .int 1), (0, .ref a0), (1, .int 1)]) E.x E.b dX6_times_1 rfl hl (by decide) rfl (fun ls hl => ?_)
  refine lv_iconst (v := 0) E.x E.b dX6_times_2 (by decide) ?_
  refine lv_istore_n (lv' := [(3, .int 0), (2, .int 1), (0, .ref a0), (1, .int 1)]) E.x E.b dX6_times_3 rfl hl (by decide) rfl (fun ls hl => ?_)
  refine lv_iload_n E.x E.b dX6_times_4 rfl (lv_at hl 0 rfl) ?_
  refine lv_iload_n E.x E.b dX6_times_5 rfl (lv_at hl 3 rfl) ?_
  refine lv_icmp_ge (tgt := 36) E.x E.b dX6_times_6 (by decide) (fun c => absurd c (by decide +kernel)) (fun _ => ?_)
  refine lv_iload_n E.x E.b dX6_times_9 rfl (lv_at hl 0 rfl) ?_
  refine lv_aload_n E.x E.b dX6_times_10 rfl (lv_at hl 2 rfl) ?_
  refine lv_iload_n E.x E.b dX6_times_11 rfl (lv_at hl 3 rfl) ?_
  refine z_calli E B (wc := [zi G a0 64 (fun _ => 0)]) (wr := []) [0] [] rfl rfl (by decide) (by decide) (z_runS E B (As := [.int 0, .ref a0, .int 1]) (rest := []) [0] rfl (by decide) ms_X6_lengthFrom t_1023 (c_X6_lengthFrom_105 l G _ a0) rfl rfl ⟨Nat.le_of_ble_eq_true rfl, Nat.le_of_ble_eq_true rfl⟩ rfl hl.1 rfl (Nat.le_of_ble_eq_true rfl) dX6_times_12 ⟨(Nat.le_of_ble_eq_true rfl), (Nat.le_of_ble_eq_true rfl)⟩) (fun r t H locs hp hB J => ?_)
  have hq := hB
  have B := J _ hq
  have B : zB G A s.heap [zi G a0 64 (fun _ => 0)] _ _ := B
  have hp := hp.symm
  subst hp
  refine lv_istore (lv' := [(4, .int 1), (3, .int 0), (2, .int 1), (0, .ref a0), (1, .int 1)]) E.x E.b dX6_times_15 hl (by decide) rfl (fun ls hl => ?_)
  refine lv_iload E.x E.b dX6_times_17 (lv_at hl 0 rfl) ?_
  refine lv_if_le (tgt := 30) E.x E.b dX6_times_19 (by decide) (fun c => absurd c (by decide +kernel)) (fun _ => ?_)
  refine lv_iload_n E.x E.b dX6_times_22 rfl (lv_at hl 2 rfl) ?_
  refine lv_iload E.x E.b dX6_times_23 (lv_at hl 0 rfl) ?_
  refine lv_iload_n E.x E.b dX6_times_25 rfl (lv_at hl 4 rfl) ?_
  refine z_calli E B (wc := []) (wr := [zi G a0 64 (fun _ => 0)]) [] [0] rfl rfl (by decide) (by decide) (z_runS E B (As := [.int 1, .int 1, .int 1]) (rest := []) [] rfl (by decide) ms_X6_leastCommonMultiple t_1033 (c_X6_leastCommonMultiple_108 l G _) rfl rfl ⟨Nat.le_of_ble_eq_true rfl, Nat.le_of_ble_eq_true rfl⟩ rfl hl.1 rfl (Nat.le_of_ble_eq_true rfl) dX6_times_26 ⟨(Nat.le_of_ble_eq_true rfl), (Nat.le_of_ble_eq_true rfl)⟩) (fun r t H locs hp hB J => ?_)
  have hq := hB
  have B := J _ hq
  have B : zB G A s.heap [zi G a0 64 (fun _ => 0)] _ _ := B
  have hp := hp.symm
  subst hp
  refine lv_istore_n (lv' := [(2, .int 1), (4, .int 1), (3, .int 0), (0, .ref a0), (1, .int 1)]) E.x E.b dX6_times_29 rfl hl (by decide) rfl (fun ls hl => ?_)
  refine lv_iinc (v := 1) (lv' := [(3, .int 1), (2, .int 1), (4, .int 1), (0, .ref a0), (1, .int 1)]) E.x E.b dX6_times_30 hl (k := 2) rfl (by decide +kernel) (by decide) rfl (fun ls hl => ?_)
  refine lv_goto (tgt := 4) E.x E.b dX6_times_33 (by decide) ?_
  refine lv_iload_n E.x E.b dX6_times_4 rfl (lv_at hl 0 rfl) ?_
  refine lv_iload_n E.x E.b dX6_times_5 rfl (lv_at hl 4 rfl) ?_
  refine lv_icmp_ge (tgt := 36) E.x E.b dX6_times_6 (by decide) (fun _ => ?_) (fun c => absurd (by decide +kernel) c)
  refine lv_iload_n E.x E.b dX6_times_36 rfl (lv_at hl 1 rfl) ?_
  refine W.widen (k := 0) (n := 0) (Nat.le_of_ble_eq_true rfl) (Nat.le_of_ble_eq_true rfl) ?_
  exact z_iret E hr hlocks B (v := 1) rfl (fun t ht => z_q B [0] (by decide) rfl ht) dX6_times_37
set_option maxHeartbeats 4000000 in
set_option maxRecDepth 100000 in
theorem c_X6_still_110 (l : Launch) (G : zGT) (sz : Nat) (a0 : Nat) : Met l yX6_still (.code yX6_still cX6_still 4 (some .int) :: zT) ({ frames := 1, cells := 0, slots := 0, locals := 88 }) (va_Pc [.ref a0, .int 1] (zPc G [zi G a0 64 (fun _ => 0)] sz)) ((fun A => va_Qi (fun (r : Int32) (_ : Unit) => r = 1) (fun (_ : Unit) t => zQ G [zi G a0 64 (fun _ => 0)] A t) A) (va_A [zi G a0 64 (fun _ => 0)] sz)) 0 0 (va_A [zi G a0 64 (fun _ => 0)] sz) := by
  refine z_start (y := yX6_still) (bytes := cX6_still) (maxL := 4) (ret := (some .int)) (av := [.ref a0, .int 1]) (QA := (fun A => va_Qi (fun (r : Int32) (_ : Unit) => r = 1) (fun (_ : Unit) t => zQ G [zi G a0 64 (fun _ => 0)] A t) A)) (by decide) ⟨Nat.le_of_ble_eq_true rfl, trivial⟩ ?_
  intro p e s m below meth c A ls E B hr hlocks hin hl
  have hl : lv_has ls 4 [(0, .ref a0), (1, .int 1)] := hl
  have B : zB G A s.heap [zi G a0 64 (fun _ => 0)] s.heap [] := B
  refine lv_iconst (v := 0) E.x E.b dX6_still_0 (by decide) ?_
  refine lv_istore_n (lv' := [(2, .int 0), (0, .ref a0), (1, .int 1)]) E.x E.b dX6_still_1 rfl hl (by decide) rfl (fun ls hl => ?_)
  refine lv_iconst (v := 0) E.x E.b dX6_still_2 (by decide) ?_
  refine lv_istore_n (lv' := [(3, .int 0), (2, .int 0), (0, .ref a0), (1, .int 1)]) E.x E.b dX6_still_3 rfl hl (by decide) rfl (fun ls hl => ?_)
  refine lv_iload_n E.x E.b dX6_still_4 rfl (lv_at hl 0 rfl) ?_
  refine lv_iload_n E.x E.b dX6_still_5 rfl (lv_at hl 3 rfl) ?_
  refine lv_icmp_ge (tgt := 33) E.x E.b dX6_still_6 (by decide) (fun c => absurd c (by decide +kernel)) (fun _ => ?_)
  refine lv_iload_n E.x E.b dX6_still_9 rfl (lv_at hl 1 rfl) ?_
  refine lv_iload_n E.x E.b dX6_still_10 rfl (lv_at hl 0 rfl) ?_
  refine lv_aload_n E.x E.b dX6_still_11 rfl (lv_at hl 2 rfl) ?_
  refine lv_iload_n E.x E.b dX6_still_12 rfl (lv_at hl 3 rfl) ?_
  refine z_calli E B (wc := [zi G a0 64 (fun _ => 0)]) (wr := []) [0] [] rfl rfl (by decide) (by decide) (z_runS E B (As := [.int 0, .ref a0, .int 1]) (rest := [.int 0]) [0] rfl (by decide) ms_X6_lengthFrom t_1023 (c_X6_lengthFrom_105 l G _ a0) rfl rfl ⟨Nat.le_of_ble_eq_true rfl, Nat.le_of_ble_eq_true rfl⟩ rfl hl.1 rfl (Nat.le_of_ble_eq_true rfl) dX6_still_13 ⟨(Nat.le_of_ble_eq_true rfl), (Nat.le_of_ble_eq_true rfl)⟩) (fun r t H locs hp hB J => ?_)
  have hq := hB
  have B := J _ hq
  have B : zB G A s.heap [zi G a0 64 (fun _ => 0)] _ _ := B
  have hp := hp.symm
  subst hp
  refine lv_iconst (v := 1) E.x E.b dX6_still_16 (by decide) ?_
  refine lv_icmp_ne (tgt := 24) E.x E.b dX6_still_17 (by decide) (fun c => absurd (by decide +kernel) c) (fun _ => ?_)
  refine lv_iconst (v := 1) E.x E.b dX6_still_20 (by decide) ?_
  refine lv_goto (tgt := 25) E.x E.b dX6_still_21 (by decide) ?_
  refine lv_iadd E.x E.b dX6_still_25 (z_topi 1 (by decide +kernel) ?_)
  refine lv_istore_n (lv' := [(2, .int 1), (3, .int 0), (0, .ref a0), (1, .int 1)]) E.x E.b dX6_still_26 rfl hl (by decide) rfl (fun ls hl => ?_)
  refine lv_iinc (v := 1) (lv' := [(3, .int 1), (2, .int 1), (0, .ref a0), (1, .int 1)]) E.x E.b dX6_still_27 hl (k := 1) rfl (by decide +kernel) (by decide) rfl (fun ls hl => ?_)
  refine lv_goto (tgt := 4) E.x E.b dX6_still_30 (by decide) ?_
  refine lv_iload_n E.x E.b dX6_still_4 rfl (lv_at hl 0 rfl) ?_
  refine lv_iload_n E.x E.b dX6_still_5 rfl (lv_at hl 3 rfl) ?_
  refine lv_icmp_ge (tgt := 33) E.x E.b dX6_still_6 (by decide) (fun _ => ?_) (fun c => absurd (by decide +kernel) c)
  refine lv_iload_n E.x E.b dX6_still_33 rfl (lv_at hl 1 rfl) ?_
  refine W.widen (k := 0) (n := 0) (Nat.le_of_ble_eq_true rfl) (Nat.le_of_ble_eq_true rfl) ?_
  exact z_iret E hr hlocks B (v := 1) rfl (fun t ht => z_q B [0] (by decide) rfl ht) dX6_still_34
set_option maxHeartbeats 4000000 in
set_option maxRecDepth 100000 in
theorem c_X11_order_111 (l : Launch) (G : zGT) (sz : Nat) (a0 a1 a2 a3 a4 a5 a6 a7 a8 a9 a10 a11 a12 a13 a14 a15 a16 a17 : Nat) (p0 : Int32) : Met l yX11_order (.code yX11_order cX11_order 3 (some .int) :: zT) ({ frames := 2, cells := 0, slots := 0, locals := 112 }) (va_Pc [.ref a0, .int p0] (zPc G [zo a0 9 [.ref a4, .ref a5, .ref a6, .ref a2, .ref a7, .ref a8, .ref a9, .ref a10, .ref a1, .ref a11, .ref a12, .ref a13, .ref a14, .null, .int 0, .int (-1)], zo a1 1 [.ref a3, .ref a15, .ref a16], zo a2 0 [.ref a17, .int 0], zi G a3 64 (fun _ => 0)] sz)) ((fun A => va_Qi (fun (r : Int32) (_ : Unit) => (p0.toInt = 0 ∧ r = 1) ∨ (p0.toInt = 1 ∧ r = 1) ∨ (p0.toInt = 2 ∧ r = 1) ∨ (p0.toInt = 3 ∧ r = 1) ∨ (p0.toInt = 4 ∧ r = 1) ∨ (¬ p0.toInt = 0 ∧ ¬ p0.toInt = 1 ∧ ¬ p0.toInt = 2 ∧ ¬ p0.toInt = 3 ∧ ¬ p0.toInt = 4 ∧ r = (-1))) (fun (_ : Unit) t => zQ G [] A t) A) (va_A [zo a0 9 [.ref a4, .ref a5, .ref a6, .ref a2, .ref a7, .ref a8, .ref a9, .ref a10, .ref a1, .ref a11, .ref a12, .ref a13, .ref a14, .null, .int 0, .int (-1)], zo a1 1 [.ref a3, .ref a15, .ref a16], zo a2 0 [.ref a17, .int 0], zi G a3 64 (fun _ => 0)] sz)) 0 0 (va_A [zo a0 9 [.ref a4, .ref a5, .ref a6, .ref a2, .ref a7, .ref a8, .ref a9, .ref a10, .ref a1, .ref a11, .ref a12, .ref a13, .ref a14, .null, .int 0, .int (-1)], zo a1 1 [.ref a3, .ref a15, .ref a16], zo a2 0 [.ref a17, .int 0], zi G a3 64 (fun _ => 0)] sz) := by
  refine z_start (y := yX11_order) (bytes := cX11_order) (maxL := 3) (ret := (some .int)) (av := [.ref a0, .int p0]) (QA := (fun A => va_Qi (fun (r : Int32) (_ : Unit) => (p0.toInt = 0 ∧ r = 1) ∨ (p0.toInt = 1 ∧ r = 1) ∨ (p0.toInt = 2 ∧ r = 1) ∨ (p0.toInt = 3 ∧ r = 1) ∨ (p0.toInt = 4 ∧ r = 1) ∨ (¬ p0.toInt = 0 ∧ ¬ p0.toInt = 1 ∧ ¬ p0.toInt = 2 ∧ ¬ p0.toInt = 3 ∧ ¬ p0.toInt = 4 ∧ r = (-1))) (fun (_ : Unit) t => zQ G [] A t) A)) (by decide) ⟨Nat.le_of_ble_eq_true rfl, trivial⟩ ?_
  intro p e s m below meth c A ls E B hr hlocks hin hl
  have hl : lv_has ls 3 [(0, .ref a0), (1, .int p0)] := hl
  have B : zB G A s.heap [zo a0 9 [.ref a4, .ref a5, .ref a6, .ref a2, .ref a7, .ref a8, .ref a9, .ref a10, .ref a1, .ref a11, .ref a12, .ref a13, .ref a14, .null, .int 0, .int (-1)], zo a1 1 [.ref a3, .ref a15, .ref a16], zo a2 0 [.ref a17, .int 0], zi G a3 64 (fun _ => 0)] s.heap [] := B
  refine lv_aload_n E.x E.b dX11_order_0 rfl (lv_at hl 0 rfl) ?_
  refine z_get E B z_inX11 (ci := 9) rfl 8 (by decide) t_377 0 rfl rfl dX11_order_1 ?_
  refine z_get E B z_inX1 (ci := 1) rfl 0 (by decide) t_290 1 rfl rfl dX11_order_4 ?_
  refine lv_astore_n (lv' := [(2, .ref a3), (0, .ref a0), (1, .int p0)]) E.x E.b dX11_order_7 rfl hl (by decide) rfl (fun ls hl => ?_)
  refine lv_aload_n E.x E.b dX11_order_8 rfl (lv_at hl 1 rfl) ?_
  refine z_get E B z_inX11 (ci := 9) rfl 3 (by decide) t_372 0 rfl rfl dX11_order_9 ?_
  refine lv_aload_n E.x E.b dX11_order_12 rfl (lv_at hl 1 rfl) ?_
  refine z_calli E B (wc := [zo a0 9 [.ref a4, .ref a5, .ref a6, .ref a2, .ref a7, .ref a8, .ref a9, .ref a10, .ref a1, .ref a11, .ref a12, .ref a13, .ref a14, .null, .int 0, .int (-1)]]) (wr := [zo a1 1 [.ref a3, .ref a15, .ref a16], zo a2 0 [.ref a17, .int 0], zi G a3 64 (fun _ => 0)]) [0] [1, 2, 3] rfl rfl (by decide) (by decide) (z_runV E B (As := []) (rest := [.ref a2]) [0] rfl (by decide) mv_X11_rows t_687 0 (ci := 9) rfl rfl rfl (c_X11_rows_65 l G _ a0 a4 a5 a6 a2 a7 a8 a9 a10 a1 a11 a12 a13 a14) rfl rfl ⟨Nat.le_of_ble_eq_true rfl, Nat.le_of_ble_eq_true rfl⟩ rfl hl.1 rfl (Nat.le_of_ble_eq_true rfl) dX11_order_13 ⟨(Nat.le_of_ble_eq_true rfl), (Nat.le_of_ble_eq_true rfl)⟩) (fun r t H locs hp hB J => ?_)
  have hq := hB
  have B := J _ hq
  have B : zB G A s.heap [zo a1 1 [.ref a3, .ref a15, .ref a16], zo a2 0 [.ref a17, .int 0], zi G a3 64 (fun _ => 0), zo a0 9 [.ref a4, .ref a5, .ref a6, .ref a2, .ref a7, .ref a8, .ref a9, .ref a10, .ref a1, .ref a11, .ref a12, .ref a13, .ref a14, .null, .int 0, .int (-1)]] _ _ := B
  have hp := hp.symm
  subst hp
  refine lv_aload_n E.x E.b dX11_order_16 rfl (lv_at hl 0 rfl) ?_
  refine z_callv E B (wc := [zo a2 0 [.ref a17, .int 0], zi G a3 64 (fun _ => 0)]) (wr := [zo a1 1 [.ref a3, .ref a15, .ref a16], zo a0 9 [.ref a4, .ref a5, .ref a6, .ref a2, .ref a7, .ref a8, .ref a9, .ref a10, .ref a1, .ref a11, .ref a12, .ref a13, .ref a14, .null, .int 0, .int (-1)]]) [1, 2] [0, 3] rfl rfl (by decide) (by decide) (z_runV E B (As := [.int 1, .ref a3]) (rest := []) [1, 2] rfl (by decide) mv_X0_makeOrder t_794 0 (ci := 0) rfl rfl rfl (c_X0_makeOrder_70 l G _ a2 a3 a17) rfl rfl ⟨Nat.le_of_ble_eq_true rfl, Nat.le_of_ble_eq_true rfl⟩ rfl hl.1 rfl (Nat.le_of_ble_eq_true rfl) dX11_order_17 ⟨(Nat.le_of_ble_eq_true rfl), (Nat.le_of_ble_eq_true rfl)⟩) (fun  t H locs hp hB J => ?_)
  have hq := hB
  have B := J _ hq
  have B : zB G A s.heap [zo a1 1 [.ref a3, .ref a15, .ref a16], zo a0 9 [.ref a4, .ref a5, .ref a6, .ref a2, .ref a7, .ref a8, .ref a9, .ref a10, .ref a1, .ref a11, .ref a12, .ref a13, .ref a14, .null, .int 0, .int (-1)], zo a2 0 [.ref a17, .int 0], zi G a3 64 (fun _ => 0)] _ _ := B
  refine lv_iload_n E.x E.b dX11_order_20 rfl (lv_at hl 2 rfl) ?_
  by_cases e_1 : p0 = 0
  · subst e_1
    refine lv_tableIn (off := 35) (tgt := 56) E.x E.b dX11_order_21 (by decide) (by decide) (by decide +kernel) (by decide) ?_
    refine lv_aload_n E.x E.b dX11_order_56 rfl (lv_at hl 0 rfl) ?_
    refine lv_aload_n E.x E.b dX11_order_57 rfl (lv_at hl 1 rfl) ?_
    refine z_calli E B (wc := [zo a0 9 [.ref a4, .ref a5, .ref a6, .ref a2, .ref a7, .ref a8, .ref a9, .ref a10, .ref a1, .ref a11, .ref a12, .ref a13, .ref a14, .null, .int 0, .int (-1)]]) (wr := [zo a1 1 [.ref a3, .ref a15, .ref a16], zo a2 0 [.ref a17, .int 0], zi G a3 64 (fun _ => 0)]) [1] [0, 2, 3] rfl rfl (by decide) (by decide) (z_runV E B (As := []) (rest := [.ref a3]) [1] rfl (by decide) mv_X11_rows t_687 0 (ci := 9) rfl rfl rfl (c_X11_rows_65 l G _ a0 a4 a5 a6 a2 a7 a8 a9 a10 a1 a11 a12 a13 a14) rfl rfl ⟨Nat.le_of_ble_eq_true rfl, Nat.le_of_ble_eq_true rfl⟩ rfl hl.1 rfl (Nat.le_of_ble_eq_true rfl) dX11_order_58 ⟨(Nat.le_of_ble_eq_true rfl), (Nat.le_of_ble_eq_true rfl)⟩) (fun r t H locs hp hB J => ?_)
    have hq := hB
    have B := J _ hq
    have B : zB G A s.heap [zo a1 1 [.ref a3, .ref a15, .ref a16], zo a2 0 [.ref a17, .int 0], zi G a3 64 (fun _ => 0), zo a0 9 [.ref a4, .ref a5, .ref a6, .ref a2, .ref a7, .ref a8, .ref a9, .ref a10, .ref a1, .ref a11, .ref a12, .ref a13, .ref a14, .null, .int 0, .int (-1)]] _ _ := B
    have hp := hp.symm
    subst hp
    refine z_calli E B (wc := [zi G a3 64 (fun _ => 0)]) (wr := [zo a1 1 [.ref a3, .ref a15, .ref a16], zo a2 0 [.ref a17, .int 0], zo a0 9 [.ref a4, .ref a5, .ref a6, .ref a2, .ref a7, .ref a8, .ref a9, .ref a10, .ref a1, .ref a11, .ref a12, .ref a13, .ref a14, .null, .int 0, .int (-1)]]) [2] [0, 1, 3] rfl rfl (by decide) (by decide) (z_runS E B (As := [.ref a3, .int 1]) (rest := []) [2] rfl (by decide) ms_X6_howMany t_1020 (c_X6_howMany_106 l G _ a3) rfl rfl ⟨Nat.le_of_ble_eq_true rfl, Nat.le_of_ble_eq_true rfl⟩ rfl hl.1 rfl (Nat.le_of_ble_eq_true rfl) dX11_order_61 ⟨(Nat.le_of_ble_eq_true rfl), (Nat.le_of_ble_eq_true rfl)⟩) (fun r t H locs hp hB J => ?_)
    have hq := hB
    have B := J _ hq
    have B : zB G A s.heap [zo a1 1 [.ref a3, .ref a15, .ref a16], zo a2 0 [.ref a17, .int 0], zo a0 9 [.ref a4, .ref a5, .ref a6, .ref a2, .ref a7, .ref a8, .ref a9, .ref a10, .ref a1, .ref a11, .ref a12, .ref a13, .ref a14, .null, .int 0, .int (-1)], zi G a3 64 (fun _ => 0)] _ _ := B
    have hp := hp.symm
    subst hp
    refine W.widen (k := 0) (n := 0) (Nat.le_of_ble_eq_true rfl) (Nat.le_of_ble_eq_true rfl) ?_
    exact z_iret E hr hlocks B (v := 1) (Or.inl ⟨(by first | decide | omega), rfl⟩) (fun t ht => z_q B [] (by decide) rfl ht) dX11_order_64
  · have e_1m : ¬ p0.toInt = 0 := zi_ne e_1
    by_cases e_2 : p0 = 1
    · subst e_2
      refine lv_tableIn (off := 44) (tgt := 65) E.x E.b dX11_order_21 (by decide) (by decide) (by decide +kernel) (by decide) ?_
      refine lv_aload_n E.x E.b dX11_order_65 rfl (lv_at hl 0 rfl) ?_
      refine lv_aload_n E.x E.b dX11_order_66 rfl (lv_at hl 1 rfl) ?_
      refine z_calli E B (wc := [zo a0 9 [.ref a4, .ref a5, .ref a6, .ref a2, .ref a7, .ref a8, .ref a9, .ref a10, .ref a1, .ref a11, .ref a12, .ref a13, .ref a14, .null, .int 0, .int (-1)]]) (wr := [zo a1 1 [.ref a3, .ref a15, .ref a16], zo a2 0 [.ref a17, .int 0], zi G a3 64 (fun _ => 0)]) [1] [0, 2, 3] rfl rfl (by decide) (by decide) (z_runV E B (As := []) (rest := [.ref a3]) [1] rfl (by decide) mv_X11_rows t_687 0 (ci := 9) rfl rfl rfl (c_X11_rows_65 l G _ a0 a4 a5 a6 a2 a7 a8 a9 a10 a1 a11 a12 a13 a14) rfl rfl ⟨Nat.le_of_ble_eq_true rfl, Nat.le_of_ble_eq_true rfl⟩ rfl hl.1 rfl (Nat.le_of_ble_eq_true rfl) dX11_order_67 ⟨(Nat.le_of_ble_eq_true rfl), (Nat.le_of_ble_eq_true rfl)⟩) (fun r t H locs hp hB J => ?_)
      have hq := hB
      have B := J _ hq
      have B : zB G A s.heap [zo a1 1 [.ref a3, .ref a15, .ref a16], zo a2 0 [.ref a17, .int 0], zi G a3 64 (fun _ => 0), zo a0 9 [.ref a4, .ref a5, .ref a6, .ref a2, .ref a7, .ref a8, .ref a9, .ref a10, .ref a1, .ref a11, .ref a12, .ref a13, .ref a14, .null, .int 0, .int (-1)]] _ _ := B
      have hp := hp.symm
      subst hp
      refine z_calli E B (wc := [zi G a3 64 (fun _ => 0)]) (wr := [zo a1 1 [.ref a3, .ref a15, .ref a16], zo a2 0 [.ref a17, .int 0], zo a0 9 [.ref a4, .ref a5, .ref a6, .ref a2, .ref a7, .ref a8, .ref a9, .ref a10, .ref a1, .ref a11, .ref a12, .ref a13, .ref a14, .null, .int 0, .int (-1)]]) [2] [0, 1, 3] rfl rfl (by decide) (by decide) (z_runS E B (As := [.ref a3, .int 1]) (rest := []) [2] rfl (by decide) ms_X6_longest t_1026 (c_X6_longest_107 l G _ a3) rfl rfl ⟨Nat.le_of_ble_eq_true rfl, Nat.le_of_ble_eq_true rfl⟩ rfl hl.1 rfl (Nat.le_of_ble_eq_true rfl) dX11_order_70 ⟨(Nat.le_of_ble_eq_true rfl), (Nat.le_of_ble_eq_true rfl)⟩) (fun r t H locs hp hB J => ?_)
      have hq := hB
      have B := J _ hq
      have B : zB G A s.heap [zo a1 1 [.ref a3, .ref a15, .ref a16], zo a2 0 [.ref a17, .int 0], zo a0 9 [.ref a4, .ref a5, .ref a6, .ref a2, .ref a7, .ref a8, .ref a9, .ref a10, .ref a1, .ref a11, .ref a12, .ref a13, .ref a14, .null, .int 0, .int (-1)], zi G a3 64 (fun _ => 0)] _ _ := B
      have hp := hp.symm
      subst hp
      refine W.widen (k := 0) (n := 0) (Nat.le_of_ble_eq_true rfl) (Nat.le_of_ble_eq_true rfl) ?_
      exact z_iret E hr hlocks B (v := 1) (Or.inr (Or.inl ⟨(by first | decide | omega), rfl⟩)) (fun t ht => z_q B [] (by decide) rfl ht) dX11_order_73
    · have e_2m : ¬ p0.toInt = 1 := zi_ne e_2
      by_cases e_3 : p0 = 2
      · subst e_3
        refine lv_tableIn (off := 53) (tgt := 74) E.x E.b dX11_order_21 (by decide) (by decide) (by decide +kernel) (by decide) ?_
        refine lv_aload_n E.x E.b dX11_order_74 rfl (lv_at hl 0 rfl) ?_
        refine lv_aload_n E.x E.b dX11_order_75 rfl (lv_at hl 1 rfl) ?_
        refine z_calli E B (wc := [zo a0 9 [.ref a4, .ref a5, .ref a6, .ref a2, .ref a7, .ref a8, .ref a9, .ref a10, .ref a1, .ref a11, .ref a12, .ref a13, .ref a14, .null, .int 0, .int (-1)]]) (wr := [zo a1 1 [.ref a3, .ref a15, .ref a16], zo a2 0 [.ref a17, .int 0], zi G a3 64 (fun _ => 0)]) [1] [0, 2, 3] rfl rfl (by decide) (by decide) (z_runV E B (As := []) (rest := [.ref a3]) [1] rfl (by decide) mv_X11_rows t_687 0 (ci := 9) rfl rfl rfl (c_X11_rows_65 l G _ a0 a4 a5 a6 a2 a7 a8 a9 a10 a1 a11 a12 a13 a14) rfl rfl ⟨Nat.le_of_ble_eq_true rfl, Nat.le_of_ble_eq_true rfl⟩ rfl hl.1 rfl (Nat.le_of_ble_eq_true rfl) dX11_order_76 ⟨(Nat.le_of_ble_eq_true rfl), (Nat.le_of_ble_eq_true rfl)⟩) (fun r t H locs hp hB J => ?_)
        have hq := hB
        have B := J _ hq
        have B : zB G A s.heap [zo a1 1 [.ref a3, .ref a15, .ref a16], zo a2 0 [.ref a17, .int 0], zi G a3 64 (fun _ => 0), zo a0 9 [.ref a4, .ref a5, .ref a6, .ref a2, .ref a7, .ref a8, .ref a9, .ref a10, .ref a1, .ref a11, .ref a12, .ref a13, .ref a14, .null, .int 0, .int (-1)]] _ _ := B
        have hp := hp.symm
        subst hp
        refine z_calli E B (wc := [zi G a3 64 (fun _ => 0)]) (wr := [zo a1 1 [.ref a3, .ref a15, .ref a16], zo a2 0 [.ref a17, .int 0], zo a0 9 [.ref a4, .ref a5, .ref a6, .ref a2, .ref a7, .ref a8, .ref a9, .ref a10, .ref a1, .ref a11, .ref a12, .ref a13, .ref a14, .null, .int 0, .int (-1)]]) [2] [0, 1, 3] rfl rfl (by decide) (by decide) (z_runS E B (As := [.ref a3, .int 1]) (rest := []) [2] rfl (by decide) ms_X6_times t_1030 (c_X6_times_109 l G _ a3) rfl rfl ⟨Nat.le_of_ble_eq_true rfl, Nat.le_of_ble_eq_true rfl⟩ rfl hl.1 rfl (Nat.le_of_ble_eq_true rfl) dX11_order_79 ⟨(Nat.le_of_ble_eq_true rfl), (Nat.le_of_ble_eq_true rfl)⟩) (fun r t H locs hp hB J => ?_)
        have hq := hB
        have B := J _ hq
        have B : zB G A s.heap [zo a1 1 [.ref a3, .ref a15, .ref a16], zo a2 0 [.ref a17, .int 0], zo a0 9 [.ref a4, .ref a5, .ref a6, .ref a2, .ref a7, .ref a8, .ref a9, .ref a10, .ref a1, .ref a11, .ref a12, .ref a13, .ref a14, .null, .int 0, .int (-1)], zi G a3 64 (fun _ => 0)] _ _ := B
        have hp := hp.symm
        subst hp
        refine W.widen (k := 0) (n := 0) (Nat.le_of_ble_eq_true rfl) (Nat.le_of_ble_eq_true rfl) ?_
        exact z_iret E hr hlocks B (v := 1) (Or.inr (Or.inr (Or.inl ⟨(by first | decide | omega), rfl⟩))) (fun t ht => z_q B [] (by decide) rfl ht) dX11_order_82
      · have e_3m : ¬ p0.toInt = 2 := zi_ne e_3
        by_cases e_4 : p0 = 3
        · subst e_4
          refine lv_tableIn (off := 62) (tgt := 83) E.x E.b dX11_order_21 (by decide) (by decide) (by decide +kernel) (by decide) ?_
          refine lv_aload_n E.x E.b dX11_order_83 rfl (lv_at hl 1 rfl) ?_
          refine z_calli E B (wc := [zo a0 9 [.ref a4, .ref a5, .ref a6, .ref a2, .ref a7, .ref a8, .ref a9, .ref a10, .ref a1, .ref a11, .ref a12, .ref a13, .ref a14, .null, .int 0, .int (-1)]]) (wr := [zo a1 1 [.ref a3, .ref a15, .ref a16], zo a2 0 [.ref a17, .int 0], zi G a3 64 (fun _ => 0)]) [1] [0, 2, 3] rfl rfl (by decide) (by decide) (z_runV E B (As := []) (rest := []) [1] rfl (by decide) mv_X11_rows t_687 0 (ci := 9) rfl rfl rfl (c_X11_rows_65 l G _ a0 a4 a5 a6 a2 a7 a8 a9 a10 a1 a11 a12 a13 a14) rfl rfl ⟨Nat.le_of_ble_eq_true rfl, Nat.le_of_ble_eq_true rfl⟩ rfl hl.1 rfl (Nat.le_of_ble_eq_true rfl) dX11_order_84 ⟨(Nat.le_of_ble_eq_true rfl), (Nat.le_of_ble_eq_true rfl)⟩) (fun r t H locs hp hB J => ?_)
          have hq := hB
          have B := J _ hq
          have B : zB G A s.heap [zo a1 1 [.ref a3, .ref a15, .ref a16], zo a2 0 [.ref a17, .int 0], zi G a3 64 (fun _ => 0), zo a0 9 [.ref a4, .ref a5, .ref a6, .ref a2, .ref a7, .ref a8, .ref a9, .ref a10, .ref a1, .ref a11, .ref a12, .ref a13, .ref a14, .null, .int 0, .int (-1)]] _ _ := B
          have hp := hp.symm
          subst hp
          refine lv_aload_n E.x E.b dX11_order_87 rfl (lv_at hl 0 rfl) ?_
          refine lv_aload_n E.x E.b dX11_order_88 rfl (lv_at hl 1 rfl) ?_
          refine z_calli E B (wc := [zo a0 9 [.ref a4, .ref a5, .ref a6, .ref a2, .ref a7, .ref a8, .ref a9, .ref a10, .ref a1, .ref a11, .ref a12, .ref a13, .ref a14, .null, .int 0, .int (-1)]]) (wr := [zo a1 1 [.ref a3, .ref a15, .ref a16], zo a2 0 [.ref a17, .int 0], zi G a3 64 (fun _ => 0)]) [3] [0, 1, 2] rfl rfl (by decide) (by decide) (z_runV E B (As := []) (rest := [.ref a3, .int 1]) [3] rfl (by decide) mv_X11_rows t_687 0 (ci := 9) rfl rfl rfl (c_X11_rows_65 l G _ a0 a4 a5 a6 a2 a7 a8 a9 a10 a1 a11 a12 a13 a14) rfl rfl ⟨Nat.le_of_ble_eq_true rfl, Nat.le_of_ble_eq_true rfl⟩ rfl hl.1 rfl (Nat.le_of_ble_eq_true rfl) dX11_order_89 ⟨(Nat.le_of_ble_eq_true rfl), (Nat.le_of_ble_eq_true rfl)⟩) (fun r t H locs hp hB J => ?_)
          have hq := hB
          have B := J _ hq
          have B : zB G A s.heap [zo a1 1 [.ref a3, .ref a15, .ref a16], zo a2 0 [.ref a17, .int 0], zi G a3 64 (fun _ => 0), zo a0 9 [.ref a4, .ref a5, .ref a6, .ref a2, .ref a7, .ref a8, .ref a9, .ref a10, .ref a1, .ref a11, .ref a12, .ref a13, .ref a14, .null, .int 0, .int (-1)]] _ _ := B
          have hp := hp.symm
          subst hp
          refine z_calli E B (wc := [zi G a3 64 (fun _ => 0)]) (wr := [zo a1 1 [.ref a3, .ref a15, .ref a16], zo a2 0 [.ref a17, .int 0], zo a0 9 [.ref a4, .ref a5, .ref a6, .ref a2, .ref a7, .ref a8, .ref a9, .ref a10, .ref a1, .ref a11, .ref a12, .ref a13, .ref a14, .null, .int 0, .int (-1)]]) [2] [0, 1, 3] rfl rfl (by decide) (by decide) (z_runS E B (As := [.ref a3, .int 1]) (rest := [.int 1]) [2] rfl (by decide) ms_X6_howMany t_1020 (c_X6_howMany_106 l G _ a3) rfl rfl ⟨Nat.le_of_ble_eq_true rfl, Nat.le_of_ble_eq_true rfl⟩ rfl hl.1 rfl (Nat.le_of_ble_eq_true rfl) dX11_order_92 ⟨(Nat.le_of_ble_eq_true rfl), (Nat.le_of_ble_eq_true rfl)⟩) (fun r t H locs hp hB J => ?_)
          have hq := hB
          have B := J _ hq
          have B : zB G A s.heap [zo a1 1 [.ref a3, .ref a15, .ref a16], zo a2 0 [.ref a17, .int 0], zo a0 9 [.ref a4, .ref a5, .ref a6, .ref a2, .ref a7, .ref a8, .ref a9, .ref a10, .ref a1, .ref a11, .ref a12, .ref a13, .ref a14, .null, .int 0, .int (-1)], zi G a3 64 (fun _ => 0)] _ _ := B
          have hp := hp.symm
          subst hp
          refine lv_isub E.x E.b dX11_order_95 (z_topi 0 (by decide +kernel) ?_)
          refine lv_iconst (v := 2) E.x E.b dX11_order_96 (by decide) ?_
          refine lv_irem E.x E.b dX11_order_97 (by decide) (z_topi 0 (by decide +kernel) ?_)
          refine lv_if_ne (tgt := 105) E.x E.b dX11_order_98 (by decide) (fun c => absurd (by decide +kernel) c) (fun _ => ?_)
          refine lv_iconst (v := 1) E.x E.b dX11_order_101 (by decide) ?_
          refine lv_goto (tgt := 106) E.x E.b dX11_order_102 (by decide) ?_
          refine W.widen (k := 0) (n := 0) (Nat.le_of_ble_eq_true rfl) (Nat.le_of_ble_eq_true rfl) ?_
          exact z_iret E hr hlocks B (v := 1) (Or.inr (Or.inr (Or.inr (Or.inl ⟨(by first | decide | omega), rfl⟩)))) (fun t ht => z_q B [] (by decide) rfl ht) dX11_order_106
        · have e_4m : ¬ p0.toInt = 3 := zi_ne e_4
          by_cases e_5 : p0 = 4
          · subst e_5
            refine lv_tableIn (off := 86) (tgt := 107) E.x E.b dX11_order_21 (by decide) (by decide) (by decide +kernel) (by decide) ?_
            refine lv_aload_n E.x E.b dX11_order_107 rfl (lv_at hl 0 rfl) ?_
            refine lv_aload_n E.x E.b dX11_order_108 rfl (lv_at hl 1 rfl) ?_
            refine z_calli E B (wc := [zo a0 9 [.ref a4, .ref a5, .ref a6, .ref a2, .ref a7, .ref a8, .ref a9, .ref a10, .ref a1, .ref a11, .ref a12, .ref a13, .ref a14, .null, .int 0, .int (-1)]]) (wr := [zo a1 1 [.ref a3, .ref a15, .ref a16], zo a2 0 [.ref a17, .int 0], zi G a3 64 (fun _ => 0)]) [1] [0, 2, 3] rfl rfl (by decide) (by decide) (z_runV E B (As := []) (rest := [.ref a3]) [1] rfl (by decide) mv_X11_rows t_687 0 (ci := 9) rfl rfl rfl (c_X11_rows_65 l G _ a0 a4 a5 a6 a2 a7 a8 a9 a10 a1 a11 a12 a13 a14) rfl rfl ⟨Nat.le_of_ble_eq_true rfl, Nat.le_of_ble_eq_true rfl⟩ rfl hl.1 rfl (Nat.le_of_ble_eq_true rfl) dX11_order_109 ⟨(Nat.le_of_ble_eq_true rfl), (Nat.le_of_ble_eq_true rfl)⟩) (fun r t H locs hp hB J => ?_)
            have hq := hB
            have B := J _ hq
            have B : zB G A s.heap [zo a1 1 [.ref a3, .ref a15, .ref a16], zo a2 0 [.ref a17, .int 0], zi G a3 64 (fun _ => 0), zo a0 9 [.ref a4, .ref a5, .ref a6, .ref a2, .ref a7, .ref a8, .ref a9, .ref a10, .ref a1, .ref a11, .ref a12, .ref a13, .ref a14, .null, .int 0, .int (-1)]] _ _ := B
            have hp := hp.symm
            subst hp
            refine z_calli E B (wc := [zi G a3 64 (fun _ => 0)]) (wr := [zo a1 1 [.ref a3, .ref a15, .ref a16], zo a2 0 [.ref a17, .int 0], zo a0 9 [.ref a4, .ref a5, .ref a6, .ref a2, .ref a7, .ref a8, .ref a9, .ref a10, .ref a1, .ref a11, .ref a12, .ref a13, .ref a14, .null, .int 0, .int (-1)]]) [2] [0, 1, 3] rfl rfl (by decide) (by decide) (z_runS E B (As := [.ref a3, .int 1]) (rest := []) [2] rfl (by decide) ms_X6_still t_1036 (c_X6_still_110 l G _ a3) rfl rfl ⟨Nat.le_of_ble_eq_true rfl, Nat.le_of_ble_eq_true rfl⟩ rfl hl.1 rfl (Nat.le_of_ble_eq_true rfl) dX11_order_112 ⟨(Nat.le_of_ble_eq_true rfl), (Nat.le_of_ble_eq_true rfl)⟩) (fun r t H locs hp hB J => ?_)
            have hq := hB
            have B := J _ hq
            have B : zB G A s.heap [zo a1 1 [.ref a3, .ref a15, .ref a16], zo a2 0 [.ref a17, .int 0], zo a0 9 [.ref a4, .ref a5, .ref a6, .ref a2, .ref a7, .ref a8, .ref a9, .ref a10, .ref a1, .ref a11, .ref a12, .ref a13, .ref a14, .null, .int 0, .int (-1)], zi G a3 64 (fun _ => 0)] _ _ := B
            have hp := hp.symm
            subst hp
            refine W.widen (k := 0) (n := 0) (Nat.le_of_ble_eq_true rfl) (Nat.le_of_ble_eq_true rfl) ?_
            exact z_iret E hr hlocks B (v := 1) (Or.inr (Or.inr (Or.inr (Or.inr (Or.inl ⟨(by first | decide | omega), rfl⟩))))) (fun t ht => z_q B [] (by decide) rfl ht) dX11_order_115
          · have e_5m : ¬ p0.toInt = 4 := zi_ne e_5
            refine lv_tableOut (tgt := 116) E.x E.b dX11_order_21 (by omega) (by decide) ?_
            refine lv_iconst (v := (-1)) E.x E.b dX11_order_116 (by decide) ?_
            refine W.widen (k := 0) (n := 0) (Nat.le_of_ble_eq_true rfl) (Nat.le_of_ble_eq_true rfl) ?_
            exact z_iret E hr hlocks B (v := (-1)) (Or.inr (Or.inr (Or.inr (Or.inr (Or.inr (⟨(by first | decide | omega), (by first | decide | omega), (by first | decide | omega), (by first | decide | omega), (by first | decide | omega), rfl⟩)))))) (fun t ht => z_q B [] (by decide) rfl ht) dX11_order_117
