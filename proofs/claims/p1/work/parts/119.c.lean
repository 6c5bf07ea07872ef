set_option maxHeartbeats 4000000 in
set_option maxRecDepth 100000 in
theorem c_X12_gate_192 (l : Launch) (G : zGT) (sz : Nat) (a0 a1 a2 a3 a4 a5 a6 a7 a8 a9 a10 a11 a12 a13 a14 a15 a16 a17 a18 a19 a20 a21 a22 a23 a24 a25 a26 a27 a28 a29 a30 a31 a32 a33 : Nat) (p0 p1 : Int32) : Met l yX12_gate (.code yX12_gate cX12_gate 3 (some .int) :: zT) ({ frames := 2, cells := 0, slots := 0, locals := 107 }) (va_Pc [.ref a0, .int p0, .int p1] (zPc G [zo a0 10 [.int 0, .ref a2, .int 0, .ref a3, .int 0, .ref a4, .ref a5, .ref a6, .ref a7, .ref a8, .int 0, .int 0, .int 0, .int 0, .int 0, .int 0, .int (-1), .int 0, .ref a9, .int 0, .int 0, .ref a10, .int 0, .int 0, .ref a11, .int 0, .int 0, .ref a12, .ref a1, .ref a13, .ref a14, .int 0, .int 0, .ref a15, .ref a16, .ref a17, .ref a18, .ref a19, .int 0, .ref a20, .ref a21, .int 0, .int 0, .ref a22, .ref a23, .ref a24, .ref a25, .ref a26, .int (-1), .ref a27, .ref a28, .ref a29, .ref a30, .ref a31, .ref a32, .ref a33], zi G a1 49 (fun _ => 0)] sz)) ((fun A => va_Qi (fun (r : Int32) (_ : Unit) => r = (-1)) (fun (_ : Unit) t => zQ G [] A t) A) (va_A [zo a0 10 [.int 0, .ref a2, .int 0, .ref a3, .int 0, .ref a4, .ref a5, .ref a6, .ref a7, .ref a8, .int 0, .int 0, .int 0, .int 0, .int 0, .int 0, .int (-1), .int 0, .ref a9, .int 0, .int 0, .ref a10, .int 0, .int 0, .ref a11, .int 0, .int 0, .ref a12, .ref a1, .ref a13, .ref a14, .int 0, .int 0, .ref a15, .ref a16, .ref a17, .ref a18, .ref a19, .int 0, .ref a20, .ref a21, .int 0, .int 0, .ref a22, .ref a23, .ref a24, .ref a25, .ref a26, .int (-1), .ref a27, .ref a28, .ref a29, .ref a30, .ref a31, .ref a32, .ref a33], zi G a1 49 (fun _ => 0)] sz)) 0 0 (va_A [zo a0 10 [.int 0, .ref a2, .int 0, .ref a3, .int 0, .ref a4, .ref a5, .ref a6, .ref a7, .ref a8, .int 0, .int 0, .int 0, .int 0, .int 0, .int 0, .int (-1), .int 0, .ref a9, .int 0, .int 0, .ref a10, .int 0, .int 0, .ref a11, .int 0, .int 0, .ref a12, .ref a1, .ref a13, .ref a14, .int 0, .int 0, .ref a15, .ref a16, .ref a17, .ref a18, .ref a19, .int 0, .ref a20, .ref a21, .int 0, .int 0, .ref a22, .ref a23, .ref a24, .ref a25, .ref a26, .int (-1), .ref a27, .ref a28, .ref a29, .ref a30, .ref a31, .ref a32, .ref a33], zi G a1 49 (fun _ => 0)] sz) := by
  refine z_start (QA := (fun A => va_Qi (fun (r : Int32) (_ : Unit) => r = (-1)) (fun (_ : Unit) t => zQ G [] A t) A)) (by decide) ⟨Nat.le_of_ble_eq_true rfl, trivial⟩ ?_
  intro p e s m below meth c A ls E B hr hlocks hin hl
  have hl : lv_has ls 3 [(0, .ref a0), (1, .int p0), (2, .int p1)] := hl
  have B : zB G A s.heap [zo a0 10 [.int 0, .ref a2, .int 0, .ref a3, .int 0, .ref a4, .ref a5, .ref a6, .ref a7, .ref a8, .int 0, .int 0, .int 0, .int 0, .int 0, .int 0, .int (-1), .int 0, .ref a9, .int 0, .int 0, .ref a10, .int 0, .int 0, .ref a11, .int 0, .int 0, .ref a12, .ref a1, .ref a13, .ref a14, .int 0, .int 0, .ref a15, .ref a16, .ref a17, .ref a18, .ref a19, .int 0, .ref a20, .ref a21, .int 0, .int 0, .ref a22, .ref a23, .ref a24, .ref a25, .ref a26, .int (-1), .ref a27, .ref a28, .ref a29, .ref a30, .ref a31, .ref a32, .ref a33], zi G a1 49 (fun _ => 0)] s.heap [] := B
  refine lv_aload_n E.x E.b dX12_gate_0 rfl (lv_at hl 0 rfl) ?_
  refine lv_iload_n E.x E.b dX12_gate_1 rfl (lv_at hl 1 rfl) ?_
  refine z_calli E B (wc := [zo a0 10 [.int 0, .ref a2, .int 0, .ref a3, .int 0, .ref a4, .ref a5, .ref a6, .ref a7, .ref a8, .int 0, .int 0, .int 0, .int 0, .int 0, .int 0, .int (-1), .int 0, .ref a9, .int 0, .int 0, .ref a10, .int 0, .int 0, .ref a11, .int 0, .int 0, .ref a12, .ref a1, .ref a13, .ref a14, .int 0, .int 0, .ref a15, .ref a16, .ref a17, .ref a18, .ref a19, .int 0, .ref a20, .ref a21, .int 0, .int 0, .ref a22, .ref a23, .ref a24, .ref a25, .ref a26, .int (-1), .ref a27, .ref a28, .ref a29, .ref a30, .ref a31, .ref a32, .ref a33], zi G a1 49 (fun _ => 0)]) (wr := []) [0, 1] [] rfl rfl (by decide) (by decide) (z_runV E B (As := [.int p0]) (rest := []) [0, 1] rfl (by decide) mv_X12_isGate t_1483 0 (ci := 10) rfl rfl rfl (c_X12_isGate_164 l G _ a0 a1 a2 a3 a4 a5 a6 a7 a8 a9 a10 a11 a12 a13 a14 a15 a16 a17 a18 a19 a20 a21 a22 a23 a24 a25 a26 a27 a28 a29 a30 a31 a32 a33 p0) rfl rfl ⟨Nat.le_of_ble_eq_true rfl, Nat.le_of_ble_eq_true rfl⟩ rfl hl.1 rfl (Nat.le_of_ble_eq_true rfl) dX12_gate_2 ⟨(Nat.le_of_ble_eq_true rfl), (Nat.le_of_ble_eq_true rfl)⟩) (fun r t H locs hp hB J => ?_)
  have hq := hB
  have B := J _ hq
  have B : zB G A s.heap [zo a0 10 [.int 0, .ref a2, .int 0, .ref a3, .int 0, .ref a4, .ref a5, .ref a6, .ref a7, .ref a8, .int 0, .int 0, .int 0, .int 0, .int 0, .int 0, .int (-1), .int 0, .ref a9, .int 0, .int 0, .ref a10, .int 0, .int 0, .ref a11, .int 0, .int 0, .ref a12, .ref a1, .ref a13, .ref a14, .int 0, .int 0, .ref a15, .ref a16, .ref a17, .ref a18, .ref a19, .int 0, .ref a20, .ref a21, .int 0, .int 0, .ref a22, .ref a23, .ref a24, .ref a25, .ref a26, .int (-1), .ref a27, .ref a28, .ref a29, .ref a30, .ref a31, .ref a32, .ref a33], zi G a1 49 (fun _ => 0)] _ _ := B
  have hp := hp.symm
  subst hp
  refine lv_if_ne (tgt := 10) E.x E.b dX12_gate_5 (by decide) (fun c => absurd (by decide +kernel) c) (fun _ => ?_)
  refine lv_iconst (v := (-1)) E.x E.b dX12_gate_8 (by decide) ?_
  refine W.widen (k := 0) (n := 0) (Nat.le_of_ble_eq_true rfl) (Nat.le_of_ble_eq_true rfl) ?_
  exact z_iret E hr hlocks B (v := (-1)) rfl (fun t ht => z_q B [] (by decide) rfl ht) dX12_gate_9
set_option maxHeartbeats 4000000 in
set_option maxRecDepth 100000 in
theorem c_X12_isRow_193 (l : Launch) (G : zGT) (sz : Nat) (a0 a1 a2 a3 a4 a5 a6 a7 a8 a9 a10 a11 a12 a13 a14 a15 a16 a17 a18 a19 a20 a21 a22 a23 a24 a25 a26 a27 a28 a29 a30 a31 a32 a33 : Nat) (p0 : Int32) : Met l yX12_isRow (.code yX12_isRow cX12_isRow 2 (some .boolean) :: zT) ({ frames := 1, cells := 0, slots := 0, locals := 86 }) (va_Pc [.ref a0, .int p0] (zPc G [zo a0 10 [.int 0, .ref a1, .int 0, .ref a2, .int 0, .ref a3, .ref a4, .ref a5, .ref a6, .ref a7, .int 0, .int 0, .int 0, .int 0, .int 0, .int 0, .int (-1), .int 0, .ref a8, .int 0, .int 0, .ref a9, .int 0, .int 0, .ref a10, .int 0, .int 0, .ref a11, .ref a12, .ref a13, .ref a14, .int 0, .int 0, .ref a15, .ref a16, .ref a17, .ref a18, .ref a19, .int 0, .ref a20, .ref a21, .int 0, .int 0, .ref a22, .ref a23, .ref a24, .ref a25, .ref a26, .int (-1), .ref a27, .ref a28, .ref a29, .ref a30, .ref a31, .ref a32, .ref a33]] sz)) ((fun A => va_Qi (fun (r : Int32) (_ : Unit) => (p0.toInt ≤ (-1) ∧ r = 0) ∨ (1 ≤ p0.toInt ∧ r = 0) ∨ (p0.toInt = 0 ∧ r = 1)) (fun (_ : Unit) t => zQ G [zo a0 10 [.int 0, .ref a1, .int 0, .ref a2, .int 0, .ref a3, .ref a4, .ref a5, .ref a6, .ref a7, .int 0, .int 0, .int 0, .int 0, .int 0, .int 0, .int (-1), .int 0, .ref a8, .int 0, .int 0, .ref a9, .int 0, .int 0, .ref a10, .int 0, .int 0, .ref a11, .ref a12, .ref a13, .ref a14, .int 0, .int 0, .ref a15, .ref a16, .ref a17, .ref a18, .ref a19, .int 0, .ref a20, .ref a21, .int 0, .int 0, .ref a22, .ref a23, .ref a24, .ref a25, .ref a26, .int (-1), .ref a27, .ref a28, .ref a29, .ref a30, .ref a31, .ref a32, .ref a33]] A t) A) (va_A [zo a0 10 [.int 0, .ref a1, .int 0, .ref a2, .int 0, .ref a3, .ref a4, .ref a5, .ref a6, .ref a7, .int 0, .int 0, .int 0, .int 0, .int 0, .int 0, .int (-1), .int 0, .ref a8, .int 0, .int 0, .ref a9, .int 0, .int 0, .ref a10, .int 0, .int 0, .ref a11, .ref a12, .ref a13, .ref a14, .int 0, .int 0, .ref a15, .ref a16, .ref a17, .ref a18, .ref a19, .int 0, .ref a20, .ref a21, .int 0, .int 0, .ref a22, .ref a23, .ref a24, .ref a25, .ref a26, .int (-1), .ref a27, .ref a28, .ref a29, .ref a30, .ref a31, .ref a32, .ref a33]] sz)) 0 0 (va_A [zo a0 10 [.int 0, .ref a1, .int 0, .ref a2, .int 0, .ref a3, .ref a4, .ref a5, .ref a6, .ref a7, .int 0, .int 0, .int 0, .int 0, .int 0, .int 0, .int (-1), .int 0, .ref a8, .int 0, .int 0, .ref a9, .int 0, .int 0, .ref a10, .int 0, .int 0, .ref a11, .ref a12, .ref a13, .ref a14, .int 0, .int 0, .ref a15, .ref a16, .ref a17, .ref a18, .ref a19, .int 0, .ref a20, .ref a21, .int 0, .int 0, .ref a22, .ref a23, .ref a24, .ref a25, .ref a26, .int (-1), .ref a27, .ref a28, .ref a29, .ref a30, .ref a31, .ref a32, .ref a33]] sz) := by
  refine z_start (QA := (fun A => va_Qi (fun (r : Int32) (_ : Unit) => (p0.toInt ≤ (-1) ∧ r = 0) ∨ (1 ≤ p0.toInt ∧ r = 0) ∨ (p0.toInt = 0 ∧ r = 1)) (fun (_ : Unit) t => zQ G [zo a0 10 [.int 0, .ref a1, .int 0, .ref a2, .int 0, .ref a3, .ref a4, .ref a5, .ref a6, .ref a7, .int 0, .int 0, .int 0, .int 0, .int 0, .int 0, .int (-1), .int 0, .ref a8, .int 0, .int 0, .ref a9, .int 0, .int 0, .ref a10, .int 0, .int 0, .ref a11, .ref a12, .ref a13, .ref a14, .int 0, .int 0, .ref a15, .ref a16, .ref a17, .ref a18, .ref a19, .int 0, .ref a20, .ref a21, .int 0, .int 0, .ref a22, .ref a23, .ref a24, .ref a25, .ref a26, .int (-1), .ref a27, .ref a28, .ref a29, .ref a30, .ref a31, .ref a32, .ref a33]] A t) A)) (by decide) ⟨Nat.le_of_ble_eq_true rfl, trivial⟩ ?_
  intro p e s m below meth c A ls E B hr hlocks hin hl
  have hl : lv_has ls 2 [(0, .ref a0), (1, .int p0)] := hl
  have B : zB G A s.heap [zo a0 10 [.int 0, .ref a1, .int 0, .ref a2, .int 0, .ref a3, .ref a4, .ref a5, .ref a6, .ref a7, .int 0, .int 0, .int 0, .int 0, .int 0, .int 0, .int (-1), .int 0, .ref a8, .int 0, .int 0, .ref a9, .int 0, .int 0, .ref a10, .int 0, .int 0, .ref a11, .ref a12, .ref a13, .ref a14, .int 0, .int 0, .ref a15, .ref a16, .ref a17, .ref a18, .ref a19, .int 0, .ref a20, .ref a21, .int 0, .int 0, .ref a22, .ref a23, .ref a24, .ref a25, .ref a26, .int (-1), .ref a27, .ref a28, .ref a29, .ref a30, .ref a31, .ref a32, .ref a33]] s.heap [] := B
  refine lv_iload_n E.x E.b dX12_isRow_0 rfl (lv_at hl 1 rfl) ?_
  refine lv_iconst (v := 0) E.x E.b dX12_isRow_1 (by decide) ?_
  refine lv_aload_n E.x E.b dX12_isRow_2 rfl (lv_at hl 0 rfl) ?_
  refine z_calli E B (wc := [zo a0 10 [.int 0, .ref a1, .int 0, .ref a2, .int 0, .ref a3, .ref a4, .ref a5, .ref a6, .ref a7, .int 0, .int 0, .int 0, .int 0, .int 0, .int 0, .int (-1), .int 0, .ref a8, .int 0, .int 0, .ref a9, .int 0, .int 0, .ref a10, .int 0, .int 0, .ref a11, .ref a12, .ref a13, .ref a14, .int 0, .int 0, .ref a15, .ref a16, .ref a17, .ref a18, .ref a19, .int 0, .ref a20, .ref a21, .int 0, .int 0, .ref a22, .ref a23, .ref a24, .ref a25, .ref a26, .int (-1), .ref a27, .ref a28, .ref a29, .ref a30, .ref a31, .ref a32, .ref a33]]) (wr := []) [0] [] rfl rfl (by decide) (by decide) (z_runV E B (As := []) (rest := [.int 0, .int p0]) [0] rfl (by decide) mv_X12_rows t_1462 0 (ci := 10) rfl rfl rfl (c_X12_rows_168 l G _ a0 a1 a2 a3 a4 a5 a6 a7 a8 a9 a10 a11 a12 a13 a14 a15 a16 a17 a18 a19 a20 a21 a22 a23 a24 a25 a26 a27 a28 a29 a30 a31 a32 a33) rfl rfl ⟨Nat.le_of_ble_eq_true rfl, Nat.le_of_ble_eq_true rfl⟩ rfl hl.1 rfl (Nat.le_of_ble_eq_true rfl) dX12_isRow_3 ⟨(Nat.le_of_ble_eq_true rfl), (Nat.le_of_ble_eq_true rfl)⟩) (fun r t H locs hp hB J => ?_)
  have hq := hB
  have B := J _ hq
  have B : zB G A s.heap [zo a0 10 [.int 0, .ref a1, .int 0, .ref a2, .int 0, .ref a3, .ref a4, .ref a5, .ref a6, .ref a7, .int 0, .int 0, .int 0, .int 0, .int 0, .int 0, .int (-1), .int 0, .ref a8, .int 0, .int 0, .ref a9, .int 0, .int 0, .ref a10, .int 0, .int 0, .ref a11, .ref a12, .ref a13, .ref a14, .int 0, .int 0, .ref a15, .ref a16, .ref a17, .ref a18, .ref a19, .int 0, .ref a20, .ref a21, .int 0, .int 0, .ref a22, .ref a23, .ref a24, .ref a25, .ref a26, .int (-1), .ref a27, .ref a28, .ref a29, .ref a30, .ref a31, .ref a32, .ref a33]] _ _ := B
  have hp := hp.symm
  subst hp
  refine lv_iconst (v := 1) E.x E.b dX12_isRow_6 (by decide) ?_
  refine lv_isub E.x E.b dX12_isRow_7 (z_topi 0 (by decide +kernel) ?_)
  refine z_calli E B (wc := []) (wr := [zo a0 10 [.int 0, .ref a1, .int 0, .ref a2, .int 0, .ref a3, .ref a4, .ref a5, .ref a6, .ref a7, .int 0, .int 0, .int 0, .int 0, .int 0, .int 0, .int (-1), .int 0, .ref a8, .int 0, .int 0, .ref a9, .int 0, .int 0, .ref a10, .int 0, .int 0, .ref a11, .ref a12, .ref a13, .ref a14, .int 0, .int 0, .ref a15, .ref a16, .ref a17, .ref a18, .ref a19, .int 0, .ref a20, .ref a21, .int 0, .int 0, .ref a22, .ref a23, .ref a24, .ref a25, .ref a26, .int (-1), .ref a27, .ref a28, .ref a29, .ref a30, .ref a31, .ref a32, .ref a33]]) [] [0] rfl rfl (by decide) (by decide) (z_runS E B (As := [.int p0, .int 0, .int 0]) (rest := []) [] rfl (by decide) ms_X12_in t_1439 (c_X12_in_161 l G _ p0) rfl rfl ⟨Nat.le_of_ble_eq_true rfl, Nat.le_of_ble_eq_true rfl⟩ rfl hl.1 rfl (Nat.le_of_ble_eq_true rfl) dX12_isRow_8 ⟨(Nat.le_of_ble_eq_true rfl), (Nat.le_of_ble_eq_true rfl)⟩) (fun r t H locs hp hB J => ?_)
  have hq := hB
  have B := J _ hq
  have B : zB G A s.heap [zo a0 10 [.int 0, .ref a1, .int 0, .ref a2, .int 0, .ref a3, .ref a4, .ref a5, .ref a6, .ref a7, .int 0, .int 0, .int 0, .int 0, .int 0, .int 0, .int (-1), .int 0, .ref a8, .int 0, .int 0, .ref a9, .int 0, .int 0, .ref a10, .int 0, .int 0, .ref a11, .ref a12, .ref a13, .ref a14, .int 0, .int 0, .ref a15, .ref a16, .ref a17, .ref a18, .ref a19, .int 0, .ref a20, .ref a21, .int 0, .int 0, .ref a22, .ref a23, .ref a24, .ref a25, .ref a26, .int (-1), .ref a27, .ref a28, .ref a29, .ref a30, .ref a31, .ref a32, .ref a33]] _ _ := B
  rcases hp with ⟨c_1, rfl⟩ | ⟨c_2, rfl⟩ | ⟨c_3, rfl⟩
  · skip
    refine W.widen (k := 0) (n := 0) (Nat.le_of_ble_eq_true rfl) (Nat.le_of_ble_eq_true rfl) ?_
    exact z_zret E hr hlocks B (v := 0) rfl (Or.inl ⟨(by first | decide | omega), rfl⟩) (fun t ht => z_q B [0] (by decide) rfl ht) dX12_isRow_11
  · skip
    refine W.widen (k := 0) (n := 0) (Nat.le_of_ble_eq_true rfl) (Nat.le_of_ble_eq_true rfl) ?_
    exact z_zret E hr hlocks B (v := 0) rfl (Or.inr (Or.inl ⟨(by first | decide | omega), rfl⟩)) (fun t ht => z_q B [0] (by decide) rfl ht) dX12_isRow_11
  · skip
    obtain rfl := zi_pt (x := p0) 0 (by show p0.toInt = 0; omega)
    refine W.widen (k := 0) (n := 0) (Nat.le_of_ble_eq_true rfl) (Nat.le_of_ble_eq_true rfl) ?_
    exact z_zret E hr hlocks B (v := 1) rfl (Or.inr (Or.inr (⟨(by first | decide | omega), rfl⟩))) (fun t ht => z_q B [0] (by decide) rfl ht) dX12_isRow_11
set_option maxHeartbeats 4000000 in
set_option maxRecDepth 100000 in
theorem c_X12_madeBy_194 (l : Launch) (G : zGT) (sz : Nat) (a0 a1 a2 a3 a4 a5 a6 a7 a8 a9 a10 a11 a12 a13 a14 a15 a16 a17 a18 a19 a20 a21 a22 a23 a24 a25 a26 a27 a28 a29 a30 a31 a32 a33 : Nat) : Met l yX12_madeBy (.code yX12_madeBy cX12_madeBy 6 (some .int) :: zT) ({ frames := 0, cells := 0, slots := 0, locals := 64 }) (va_Pc [.ref a0, .int 0, .int 0, .int 0] (zPc G [zo a0 10 [.int 0, .ref a1, .int 0, .ref a2, .int 0, .ref a3, .ref a4, .ref a5, .ref a6, .ref a7, .int 0, .int 0, .int 0, .int 0, .int 0, .int 0, .int (-1), .int 0, .ref a8, .int 0, .int 0, .ref a9, .int 0, .int 0, .ref a10, .int 0, .int 0, .ref a11, .ref a12, .ref a13, .ref a14, .int 0, .int 0, .ref a15, .ref a16, .ref a17, .ref a18, .ref a19, .int 0, .ref a20, .ref a21, .int 0, .int 0, .ref a22, .ref a23, .ref a24, .ref a25, .ref a26, .int (-1), .ref a27, .ref a28, .ref a29, .ref a30, .ref a31, .ref a32, .ref a33]] sz)) ((fun A => va_Qi (fun (r : Int32) (_ : Unit) => r = 0) (fun (_ : Unit) t => zQ G [zo a0 10 [.int 0, .ref a1, .int 0, .ref a2, .int 0, .ref a3, .ref a4, .ref a5, .ref a6, .ref a7, .int 0, .int 0, .int 0, .int 0, .int 0, .int 0, .int (-1), .int 0, .ref a8, .int 0, .int 0, .ref a9, .int 0, .int 0, .ref a10, .int 0, .int 0, .ref a11, .ref a12, .ref a13, .ref a14, .int 0, .int 0, .ref a15, .ref a16, .ref a17, .ref a18, .ref a19, .int 0, .ref a20, .ref a21, .int 0, .int 0, .ref a22, .ref a23, .ref a24, .ref a25, .ref a26, .int (-1), .ref a27, .ref a28, .ref a29, .ref a30, .ref a31, .ref a32, .ref a33]] A t) A) (va_A [zo a0 10 [.int 0, .ref a1, .int 0, .ref a2, .int 0, .ref a3, .ref a4, .ref a5, .ref a6, .ref a7, .int 0, .int 0, .int 0, .int 0, .int 0, .int 0, .int (-1), .int 0, .ref a8, .int 0, .int 0, .ref a9, .int 0, .int 0, .ref a10, .int 0, .int 0, .ref a11, .ref a12, .ref a13, .ref a14, .int 0, .int 0, .ref a15, .ref a16, .ref a17, .ref a18, .ref a19, .int 0, .ref a20, .ref a21, .int 0, .int 0, .ref a22, .ref a23, .ref a24, .ref a25, .ref a26, .int (-1), .ref a27, .ref a28, .ref a29, .ref a30, .ref a31, .ref a32, .ref a33]] sz)) 0 0 (va_A [zo a0 10 [.int 0, .ref a1, .int 0, .ref a2, .int 0, .ref a3, .ref a4, .ref a5, .ref a6, .ref a7, .int 0, .int 0, .int 0, .int 0, .int 0, .int 0, .int (-1), .int 0, .ref a8, .int 0, .int 0, .ref a9, .int 0, .int 0, .ref a10, .int 0, .int 0, .ref a11, .ref a12, .ref a13, .ref a14, .int 0, .int 0, .ref a15, .ref a16, .ref a17, .ref a18, .ref a19, .int 0, .ref a20, .ref a21, .int 0, .int 0, .ref a22, .ref a23, .ref a24, .ref a25, .ref a26, .int (-1), .ref a27, .ref a28, .ref a29, .ref a30, .ref a31, .ref a32, .ref a33]] sz) := by
  refine z_start (QA := (fun A => va_Qi (fun (r : Int32) (_ : Unit) => r = 0) (fun (_ : Unit) t => zQ G [zo a0 10 [.int 0, .ref a1, .int 0, .ref a2, .int 0, .ref a3, .ref a4, .ref a5, .ref a6, .ref a7, .int 0, .int 0, .int 0, .int 0, .int 0, .int 0, .int (-1), .int 0, .ref a8, .int 0, .int 0, .ref a9, .int 0, .int 0, .ref a10, .int 0, .int 0, .ref a11, .ref a12, .ref a13, .ref a14, .int 0, .int 0, .ref a15, .ref a16, .ref a17, .ref a18, .ref a19, .int 0, .ref a20, .ref a21, .int 0, .int 0, .ref a22, .ref a23, .ref a24, .ref a25, .ref a26, .int (-1), .ref a27, .ref a28, .ref a29, .ref a30, .ref a31, .ref a32, .ref a33]] A t) A)) (by decide) ⟨Nat.le_of_ble_eq_true rfl, trivial⟩ ?_
  intro p e s m below meth c A ls E B hr hlocks hin hl
  have hl : lv_has ls 6 [(0, .ref a0), (1, .int 0), (2, .int 0), (3, .int 0)] := hl
  have B : zB G A s.heap [zo a0 10 [.int 0, .ref a1, .int 0, .ref a2, .int 0, .ref a3, .ref a4, .ref a5, .ref a6, .ref a7, .int 0, .int 0, .int 0, .int 0, .int 0, .int 0, .int (-1), .int 0, .ref a8, .int 0, .int 0, .ref a9, .int 0, .int 0, .ref a10, .int 0, .int 0, .ref a11, .ref a12, .ref a13, .ref a14, .int 0, .int 0, .ref a15, .ref a16, .ref a17, .ref a18, .ref a19, .int 0, .ref a20, .ref a21, .int 0, .int 0, .ref a22, .ref a23, .ref a24, .ref a25, .ref a26, .int (-1), .ref a27, .ref a28, .ref a29, .ref a30, .ref a31, .ref a32, .ref a33]] s.heap [] := B
  refine lv_iload_n E.x E.b dX12_madeBy_0 rfl (lv_at hl 1 rfl) ?_
  refine lv_istore (lv' := [(4, .int 0), (0, .ref a0), (1, .int 0), (2, .int 0), (3, .int 0)]) E.x E.b dX12_madeBy_1 hl (by decide) rfl (fun ls hl => ?_)
  refine lv_iload_n E.x E.b dX12_madeBy_3 rfl (lv_at hl 3 rfl) ?_
  refine lv_istore (lv' := [(5, .int 0), (4, .int 0), (0, .ref a0), (1, .int 0), (2, .int 0), (3, .int 0)]) E.x E.b dX12_madeBy_4 hl (by decide) rfl (fun ls hl => ?_)
  refine lv_iload E.x E.b dX12_madeBy_6 (lv_at hl 0 rfl) ?_
  refine lv_iload_n E.x E.b dX12_madeBy_8 rfl (lv_at hl 5 rfl) ?_
  refine lv_icmp_ge (tgt := 31) E.x E.b dX12_madeBy_9 (by decide) (fun _ => ?_) (fun c => absurd (by decide +kernel) c)
  refine lv_iload E.x E.b dX12_madeBy_31 (lv_at hl 1 rfl) ?_
  refine W.widen (k := 0) (n := 0) (Nat.le_of_ble_eq_true rfl) (Nat.le_of_ble_eq_true rfl) ?_
  exact z_iret E hr hlocks B (v := 0) rfl (fun t ht => z_q B [0] (by decide) rfl ht) dX12_madeBy_33
set_option maxHeartbeats 4000000 in
set_option maxRecDepth 100000 in
theorem c_X12_made_195 (l : Launch) (G : zGT) (sz : Nat) (a0 a1 a2 a3 a4 a5 a6 a7 a8 a9 a10 a11 a12 a13 a14 a15 a16 a17 a18 a19 a20 a21 a22 a23 a24 a25 a26 a27 a28 a29 a30 a31 a32 a33 : Nat) (p0 p1 : Int32) : Met l yX12_made (.code yX12_made cX12_made 3 (some .int) :: zT) ({ frames := 2, cells := 0, slots := 0, locals := 107 }) (va_Pc [.ref a0, .int p0, .int p1] (zPc G [zo a0 10 [.int 0, .ref a2, .int 0, .ref a3, .int 0, .ref a4, .ref a5, .ref a6, .ref a7, .ref a8, .int 0, .int 0, .int 0, .int 0, .int 0, .int 0, .int (-1), .int 0, .ref a9, .int 0, .int 0, .ref a10, .int 0, .int 0, .ref a11, .int 0, .int 0, .ref a12, .ref a1, .ref a13, .ref a14, .int 0, .int 0, .ref a15, .ref a16, .ref a17, .ref a18, .ref a19, .int 0, .ref a20, .ref a21, .int 0, .int 0, .ref a22, .ref a23, .ref a24, .ref a25, .ref a26, .int (-1), .ref a27, .ref a28, .ref a29, .ref a30, .ref a31, .ref a32, .ref a33], zi G a1 49 (fun _ => 0)] sz)) ((fun A => va_Qi (fun (r : Int32) (_ : Unit) => (p0.toInt ≤ (-1) ∧ r = (-1)) ∨ (1 ≤ p0.toInt ∧ r = (-1)) ∨ (p0.toInt = 0 ∧ p1.toInt ≤ (-1) ∧ r = (-1)) ∨ (p0.toInt = 0 ∧ 1 ≤ p1.toInt ∧ r = (-1)) ∨ (p0.toInt = 0 ∧ p1.toInt = 0 ∧ r = 0)) (fun (_ : Unit) t => zQ G [] A t) A) (va_A [zo a0 10 [.int 0, .ref a2, .int 0, .ref a3, .int 0, .ref a4, .ref a5, .ref a6, .ref a7, .ref a8, .int 0, .int 0, .int 0, .int 0, .int 0, .int 0, .int (-1), .int 0, .ref a9, .int 0, .int 0, .ref a10, .int 0, .int 0, .ref a11, .int 0, .int 0, .ref a12, .ref a1, .ref a13, .ref a14, .int 0, .int 0, .ref a15, .ref a16, .ref a17, .ref a18, .ref a19, .int 0, .ref a20, .ref a21, .int 0, .int 0, .ref a22, .ref a23, .ref a24, .ref a25, .ref a26, .int (-1), .ref a27, .ref a28, .ref a29, .ref a30, .ref a31, .ref a32, .ref a33], zi G a1 49 (fun _ => 0)] sz)) 0 0 (va_A [zo a0 10 [.int 0, .ref a2, .int 0, .ref a3, .int 0, .ref a4, .ref a5, .ref a6, .ref a7, .ref a8, .int 0, .int 0, .int 0, .int 0, .int 0, .int 0, .int (-1), .int 0, .ref a9, .int 0, .int 0, .ref a10, .int 0, .int 0, .ref a11, .int 0, .int 0, .ref a12, .ref a1, .ref a13, .ref a14, .int 0, .int 0, .ref a15, .ref a16, .ref a17, .ref a18, .ref a19, .int 0, .ref a20, .ref a21, .int 0, .int 0, .ref a22, .ref a23, .ref a24, .ref a25, .ref a26, .int (-1), .ref a27, .ref a28, .ref a29, .ref a30, .ref a31, .ref a32, .ref a33], zi G a1 49 (fun _ => 0)] sz) := by
  refine z_start (QA := (fun A => va_Qi (fun (r : Int32) (_ : Unit) => (p0.toInt ≤ (-1) ∧ r = (-1)) ∨ (1 ≤ p0.toInt ∧ r = (-1)) ∨ (p0.toInt = 0 ∧ p1.toInt ≤ (-1) ∧ r = (-1)) ∨ (p0.toInt = 0 ∧ 1 ≤ p1.toInt ∧ r = (-1)) ∨ (p0.toInt = 0 ∧ p1.toInt = 0 ∧ r = 0)) (fun (_ : Unit) t => zQ G [] A t) A)) (by decide) ⟨Nat.le_of_ble_eq_true rfl, trivial⟩ ?_
  intro p e s m below meth c A ls E B hr hlocks hin hl
  have hl : lv_has ls 3 [(0, .ref a0), (1, .int p0), (2, .int p1)] := hl
  have B : zB G A s.heap [zo a0 10 [.int 0, .ref a2, .int 0, .ref a3, .int 0, .ref a4, .ref a5, .ref a6, .ref a7, .ref a8, .int 0, .int 0, .int 0, .int 0, .int 0, .int 0, .int (-1), .int 0, .ref a9, .int 0, .int 0, .ref a10, .int 0, .int 0, .ref a11, .int 0, .int 0, .ref a12, .ref a1, .ref a13, .ref a14, .int 0, .int 0, .ref a15, .ref a16, .ref a17, .ref a18, .ref a19, .int 0, .ref a20, .ref a21, .int 0, .int 0, .ref a22, .ref a23, .ref a24, .ref a25, .ref a26, .int (-1), .ref a27, .ref a28, .ref a29, .ref a30, .ref a31, .ref a32, .ref a33], zi G a1 49 (fun _ => 0)] s.heap [] := B
  refine lv_aload_n E.x E.b dX12_made_0 rfl (lv_at hl 0 rfl) ?_
  refine lv_iload_n E.x E.b dX12_made_1 rfl (lv_at hl 1 rfl) ?_
  refine z_calli E B (wc := [zo a0 10 [.int 0, .ref a2, .int 0, .ref a3, .int 0, .ref a4, .ref a5, .ref a6, .ref a7, .ref a8, .int 0, .int 0, .int 0, .int 0, .int 0, .int 0, .int (-1), .int 0, .ref a9, .int 0, .int 0, .ref a10, .int 0, .int 0, .ref a11, .int 0, .int 0, .ref a12, .ref a1, .ref a13, .ref a14, .int 0, .int 0, .ref a15, .ref a16, .ref a17, .ref a18, .ref a19, .int 0, .ref a20, .ref a21, .int 0, .int 0, .ref a22, .ref a23, .ref a24, .ref a25, .ref a26, .int (-1), .ref a27, .ref a28, .ref a29, .ref a30, .ref a31, .ref a32, .ref a33]]) (wr := [zi G a1 49 (fun _ => 0)]) [0] [1] rfl rfl (by decide) (by decide) (z_runV E B (As := [.int p0]) (rest := []) [0] rfl (by decide) mv_X12_isRow t_1458 0 (ci := 10) rfl rfl rfl (c_X12_isRow_193 l G _ a0 a2 a3 a4 a5 a6 a7 a8 a9 a10 a11 a12 a1 a13 a14 a15 a16 a17 a18 a19 a20 a21 a22 a23 a24 a25 a26 a27 a28 a29 a30 a31 a32 a33 p0) rfl rfl ⟨Nat.le_of_ble_eq_true rfl, Nat.le_of_ble_eq_true rfl⟩ rfl hl.1 rfl (Nat.le_of_ble_eq_true rfl) dX12_made_2 ⟨(Nat.le_of_ble_eq_true rfl), (Nat.le_of_ble_eq_true rfl)⟩) (fun r t H locs hp hB J => ?_)
  have hq := hB
  have B := J _ hq
  have B : zB G A s.heap [zi G a1 49 (fun _ => 0), zo a0 10 [.int 0, .ref a2, .int 0, .ref a3, .int 0, .ref a4, .ref a5, .ref a6, .ref a7, .ref a8, .int 0, .int 0, .int 0, .int 0, .int 0, .int 0, .int (-1), .int 0, .ref a9, .int 0, .int 0, .ref a10, .int 0, .int 0, .ref a11, .int 0, .int 0, .ref a12, .ref a1, .ref a13, .ref a14, .int 0, .int 0, .ref a15, .ref a16, .ref a17, .ref a18, .ref a19, .int 0, .ref a20, .ref a21, .int 0, .int 0, .ref a22, .ref a23, .ref a24, .ref a25, .ref a26, .int (-1), .ref a27, .ref a28, .ref a29, .ref a30, .ref a31, .ref a32, .ref a33]] _ _ := B
  rcases hp with ⟨c_1, rfl⟩ | ⟨c_2, rfl⟩ | ⟨c_3, rfl⟩
  · skip
    refine lv_if_eq (tgt := 30) E.x E.b dX12_made_5 (by decide) (fun _ => ?_) (fun c => absurd (by decide +kernel) c)
    refine lv_iconst (v := (-1)) E.x E.b dX12_made_30 (by decide) ?_
    refine W.widen (k := 0) (n := 0) (Nat.le_of_ble_eq_true rfl) (Nat.le_of_ble_eq_true rfl) ?_
    exact z_iret E hr hlocks B (v := (-1)) (Or.inl ⟨(by first | decide | omega), rfl⟩) (fun t ht => z_q B [] (by decide) rfl ht) dX12_made_31
  · skip
    refine lv_if_eq (tgt := 30) E.x E.b dX12_made_5 (by decide) (fun _ => ?_) (fun c => absurd (by decide +kernel) c)
    refine lv_iconst (v := (-1)) E.x E.b dX12_made_30 (by decide) ?_
    refine W.widen (k := 0) (n := 0) (Nat.le_of_ble_eq_true rfl) (Nat.le_of_ble_eq_true rfl) ?_
    exact z_iret E hr hlocks B (v := (-1)) (Or.inr (Or.inl ⟨(by first | decide | omega), rfl⟩)) (fun t ht => z_q B [] (by decide) rfl ht) dX12_made_31
  · skip
    obtain rfl := zi_pt (x := p0) 0 (by show p0.toInt = 0; omega)
    refine lv_if_eq (tgt := 30) E.x E.b dX12_made_5 (by decide) (fun c => absurd c (by decide +kernel)) (fun _ => ?_)
    refine lv_iload_n E.x E.b dX12_made_8 rfl (lv_at hl 2 rfl) ?_
    refine lv_iconst (v := 0) E.x E.b dX12_made_9 (by decide) ?_
    refine lv_aload_n E.x E.b dX12_made_10 rfl (lv_at hl 0 rfl) ?_
    refine z_calli E B (wc := [zo a0 10 [.int 0, .ref a2, .int 0, .ref a3, .int 0, .ref a4, .ref a5, .ref a6, .ref a7, .ref a8, .int 0, .int 0, .int 0, .int 0, .int 0, .int 0, .int (-1), .int 0, .ref a9, .int 0, .int 0, .ref a10, .int 0, .int 0, .ref a11, .int 0, .int 0, .ref a12, .ref a1, .ref a13, .ref a14, .int 0, .int 0, .ref a15, .ref a16, .ref a17, .ref a18, .ref a19, .int 0, .ref a20, .ref a21, .int 0, .int 0, .ref a22, .ref a23, .ref a24, .ref a25, .ref a26, .int (-1), .ref a27, .ref a28, .ref a29, .ref a30, .ref a31, .ref a32, .ref a33], zi G a1 49 (fun _ => 0)]) (wr := []) [1, 0] [] rfl rfl (by decide) (by decide) (z_runV E B (As := []) (rest := [.int 0, .int p1]) [1, 0] rfl (by decide) mv_X12_gates t_1454 0 (ci := 10) rfl rfl rfl (c_X12_gates_160 l G _ a0 a1 a2 a3 a4 a5 a6 a7 a8 a9 a10 a11 a12 a13 a14 a15 a16 a17 a18 a19 a20 a21 a22 a23 a24 a25 a26 a27 a28 a29 a30 a31 a32 a33) rfl rfl ⟨Nat.le_of_ble_eq_true rfl, Nat.le_of_ble_eq_true rfl⟩ rfl hl.1 rfl (Nat.le_of_ble_eq_true rfl) dX12_made_11 ⟨(Nat.le_of_ble_eq_true rfl), (Nat.le_of_ble_eq_true rfl)⟩) (fun r t H locs hp hB J => ?_)
    have hq := hB
    have B := J _ hq
    have B : zB G A s.heap [zo a0 10 [.int 0, .ref a2, .int 0, .ref a3, .int 0, .ref a4, .ref a5, .ref a6, .ref a7, .ref a8, .int 0, .int 0, .int 0, .int 0, .int 0, .int 0, .int (-1), .int 0, .ref a9, .int 0, .int 0, .ref a10, .int 0, .int 0, .ref a11, .int 0, .int 0, .ref a12, .ref a1, .ref a13, .ref a14, .int 0, .int 0, .ref a15, .ref a16, .ref a17, .ref a18, .ref a19, .int 0, .ref a20, .ref a21, .int 0, .int 0, .ref a22, .ref a23, .ref a24, .ref a25, .ref a26, .int (-1), .ref a27, .ref a28, .ref a29, .ref a30, .ref a31, .ref a32, .ref a33], zi G a1 49 (fun _ => 0)] _ _ := B
    have hp := hp.symm
    subst hp
    refine z_calli E B (wc := []) (wr := [zo a0 10 [.int 0, .ref a2, .int 0, .ref a3, .int 0, .ref a4, .ref a5, .ref a6, .ref a7, .ref a8, .int 0, .int 0, .int 0, .int 0, .int 0, .int 0, .int (-1), .int 0, .ref a9, .int 0, .int 0, .ref a10, .int 0, .int 0, .ref a11, .int 0, .int 0, .ref a12, .ref a1, .ref a13, .ref a14, .int 0, .int 0, .ref a15, .ref a16, .ref a17, .ref a18, .ref a19, .int 0, .ref a20, .ref a21, .int 0, .int 0, .ref a22, .ref a23, .ref a24, .ref a25, .ref a26, .int (-1), .ref a27, .ref a28, .ref a29, .ref a30, .ref a31, .ref a32, .ref a33], zi G a1 49 (fun _ => 0)]) [] [0, 1] rfl rfl (by decide) (by decide) (z_runS E B (As := [.int p1, .int 0, .int 0]) (rest := []) [] rfl (by decide) ms_X12_in t_1439 (c_X12_in_161 l G _ p1) rfl rfl ⟨Nat.le_of_ble_eq_true rfl, Nat.le_of_ble_eq_true rfl⟩ rfl hl.1 rfl (Nat.le_of_ble_eq_true rfl) dX12_made_14 ⟨(Nat.le_of_ble_eq_true rfl), (Nat.le_of_ble_eq_true rfl)⟩) (fun r t H locs hp hB J => ?_)
    have hq := hB
    have B := J _ hq
    have B : zB G A s.heap [zo a0 10 [.int 0, .ref a2, .int 0, .ref a3, .int 0, .ref a4, .ref a5, .ref a6, .ref a7, .ref a8, .int 0, .int 0, .int 0, .int 0, .int 0, .int 0, .int (-1), .int 0, .ref a9, .int 0, .int 0, .ref a10, .int 0, .int 0, .ref a11, .int 0, .int 0, .ref a12, .ref a1, .ref a13, .ref a14, .int 0, .int 0, .ref a15, .ref a16, .ref a17, .ref a18, .ref a19, .int 0, .ref a20, .ref a21, .int 0, .int 0, .ref a22, .ref a23, .ref a24, .ref a25, .ref a26, .int (-1), .ref a27, .ref a28, .ref a29, .ref a30, .ref a31, .ref a32, .ref a33], zi G a1 49 (fun _ => 0)] _ _ := B
    rcases hp with ⟨c_4, rfl⟩ | ⟨c_5, rfl⟩ | ⟨c_6, rfl⟩
    · skip
      refine lv_if_eq (tgt := 30) E.x E.b dX12_made_17 (by decide) (fun _ => ?_) (fun c => absurd (by decide +kernel) c)
      refine lv_iconst (v := (-1)) E.x E.b dX12_made_30 (by decide) ?_
      refine W.widen (k := 0) (n := 0) (Nat.le_of_ble_eq_true rfl) (Nat.le_of_ble_eq_true rfl) ?_
      exact z_iret E hr hlocks B (v := (-1)) (Or.inr (Or.inr (Or.inl ⟨(by first | decide | omega), (by first | decide | omega), rfl⟩))) (fun t ht => z_q B [] (by decide) rfl ht) dX12_made_31
    · skip
      refine lv_if_eq (tgt := 30) E.x E.b dX12_made_17 (by decide) (fun _ => ?_) (fun c => absurd (by decide +kernel) c)
      refine lv_iconst (v := (-1)) E.x E.b dX12_made_30 (by decide) ?_
      refine W.widen (k := 0) (n := 0) (Nat.le_of_ble_eq_true rfl) (Nat.le_of_ble_eq_true rfl) ?_
      exact z_iret E hr hlocks B (v := (-1)) (Or.inr (Or.inr (Or.inr (Or.inl ⟨(by first | decide | omega), (by first | decide | omega), rfl⟩)))) (fun t ht => z_q B [] (by decide) rfl ht) dX12_made_31
    · skip
      obtain rfl := zi_pt (x := p1) 0 (by show p1.toInt = 0; omega)
      refine lv_if_eq (tgt := 30) E.x E.b dX12_made_17 (by decide) (fun c => absurd c (by decide +kernel)) (fun _ => ?_)
      refine lv_aload_n E.x E.b dX12_made_20 rfl (lv_at hl 0 rfl) ?_
      refine lv_iload_n E.x E.b dX12_made_21 rfl (lv_at hl 1 rfl) ?_
      refine lv_iconst (v := 0) E.x E.b dX12_made_22 (by decide) ?_
      refine lv_iload_n E.x E.b dX12_made_23 rfl (lv_at hl 2 rfl) ?_
      refine z_calli E B (wc := [zo a0 10 [.int 0, .ref a2, .int 0, .ref a3, .int 0, .ref a4, .ref a5, .ref a6, .ref a7, .ref a8, .int 0, .int 0, .int 0, .int 0, .int 0, .int 0, .int (-1), .int 0, .ref a9, .int 0, .int 0, .ref a10, .int 0, .int 0, .ref a11, .int 0, .int 0, .ref a12, .ref a1, .ref a13, .ref a14, .int 0, .int 0, .ref a15, .ref a16, .ref a17, .ref a18, .ref a19, .int 0, .ref a20, .ref a21, .int 0, .int 0, .ref a22, .ref a23, .ref a24, .ref a25, .ref a26, .int (-1), .ref a27, .ref a28, .ref a29, .ref a30, .ref a31, .ref a32, .ref a33]]) (wr := [zi G a1 49 (fun _ => 0)]) [0] [1] rfl rfl (by decide) (by decide) (z_runV E B (As := [.int 0, .int 0, .int 0]) (rest := []) [0] rfl (by decide) mv_X12_madeBy t_1587 0 (ci := 10) rfl rfl rfl (c_X12_madeBy_194 l G _ a0 a2 a3 a4 a5 a6 a7 a8 a9 a10 a11 a12 a1 a13 a14 a15 a16 a17 a18 a19 a20 a21 a22 a23 a24 a25 a26 a27 a28 a29 a30 a31 a32 a33) rfl rfl ⟨Nat.le_of_ble_eq_true rfl, Nat.le_of_ble_eq_true rfl⟩ rfl hl.1 rfl (Nat.le_of_ble_eq_true rfl) dX12_made_24 ⟨(Nat.le_of_ble_eq_true rfl), (Nat.le_of_ble_eq_true rfl)⟩) (fun r t H locs hp hB J => ?_)
      have hq := hB
      have B := J _ hq
      have B : zB G A s.heap [zi G a1 49 (fun _ => 0), zo a0 10 [.int 0, .ref a2, .int 0, .ref a3, .int 0, .ref a4, .ref a5, .ref a6, .ref a7, .ref a8, .int 0, .int 0, .int 0, .int 0, .int 0, .int 0, .int (-1), .int 0, .ref a9, .int 0, .int 0, .ref a10, .int 0, .int 0, .ref a11, .int 0, .int 0, .ref a12, .ref a1, .ref a13, .ref a14, .int 0, .int 0, .ref a15, .ref a16, .ref a17, .ref a18, .ref a19, .int 0, .ref a20, .ref a21, .int 0, .int 0, .ref a22, .ref a23, .ref a24, .ref a25, .ref a26, .int (-1), .ref a27, .ref a28, .ref a29, .ref a30, .ref a31, .ref a32, .ref a33]] _ _ := B
      have hp := hp.symm
      subst hp
      refine lv_goto (tgt := 31) E.x E.b dX12_made_27 (by decide) ?_
      refine W.widen (k := 0) (n := 0) (Nat.le_of_ble_eq_true rfl) (Nat.le_of_ble_eq_true rfl) ?_
      exact z_iret E hr hlocks B (v := 0) (Or.inr (Or.inr (Or.inr (Or.inr (⟨(by first | decide | omega), (by first | decide | omega), rfl⟩))))) (fun t ht => z_q B [] (by decide) rfl ht) dX12_made_31
set_option maxHeartbeats 4000000 in
set_option maxRecDepth 100000 in
theorem c_X12_undone_196 (l : Launch) (G : zGT) (sz : Nat) (a0 a1 a2 a3 a4 a5 a6 a7 a8 a9 a10 a11 a12 a13 a14 a15 a16 a17 a18 a19 a20 a21 a22 a23 a24 a25 a26 a27 a28 a29 a30 a31 a32 a33 : Nat) (p0 : Int32) : Met l yX12_undone (.code yX12_undone cX12_undone 4 (some .int) :: zT) ({ frames := 2, cells := 0, slots := 0, locals := 107 }) (va_Pc [.ref a0, .int p0] (zPc G [zo a0 10 [.int 0, .ref a2, .int 0, .ref a3, .int 0, .ref a4, .ref a5, .ref a6, .ref a7, .ref a8, .int 0, .int 0, .int 0, .int 0, .int 0, .int 0, .int (-1), .int 0, .ref a9, .int 0, .int 0, .ref a10, .int 0, .int 0, .ref a11, .int 0, .int 0, .ref a12, .ref a1, .ref a13, .ref a14, .int 0, .int 0, .ref a15, .ref a16, .ref a17, .ref a18, .ref a19, .int 0, .ref a20, .ref a21, .int 0, .int 0, .ref a22, .ref a23, .ref a24, .ref a25, .ref a26, .int (-1), .ref a27, .ref a28, .ref a29, .ref a30, .ref a31, .ref a32, .ref a33], zi G a1 49 (fun _ => 0)] sz)) ((fun A => va_Qi (fun (r : Int32) (_ : Unit) => (p0.toInt ≤ (-1) ∧ r = (-1)) ∨ (1 ≤ p0.toInt ∧ r = (-1)) ∨ (p0.toInt = 0 ∧ r = 0)) (fun (_ : Unit) t => zQ G [] A t) A) (va_A [zo a0 10 [.int 0, .ref a2, .int 0, .ref a3, .int 0, .ref a4, .ref a5, .ref a6, .ref a7, .ref a8, .int 0, .int 0, .int 0, .int 0, .int 0, .int 0, .int (-1), .int 0, .ref a9, .int 0, .int 0, .ref a10, .int 0, .int 0, .ref a11, .int 0, .int 0, .ref a12, .ref a1, .ref a13, .ref a14, .int 0, .int 0, .ref a15, .ref a16, .ref a17, .ref a18, .ref a19, .int 0, .ref a20, .ref a21, .int 0, .int 0, .ref a22, .ref a23, .ref a24, .ref a25, .ref a26, .int (-1), .ref a27, .ref a28, .ref a29, .ref a30, .ref a31, .ref a32, .ref a33], zi G a1 49 (fun _ => 0)] sz)) 0 0 (va_A [zo a0 10 [.int 0, .ref a2, .int 0, .ref a3, .int 0, .ref a4, .ref a5, .ref a6, .ref a7, .ref a8, .int 0, .int 0, .int 0, .int 0, .int 0, .int 0, .int (-1), .int 0, .ref a9, .int 0, .int 0, .ref a10, .int 0, .int 0, .ref a11, .int 0, .int 0, .ref a12, .ref a1, .ref a13, .ref a14, .int 0, .int 0, .ref a15, .ref a16, .ref a17, .ref a18, .ref a19, .int 0, .ref a20, .ref a21, .int 0, .int 0, .ref a22, .ref a23, .ref a24, .ref a25, .ref a26, .int (-1), .ref a27, .ref a28, .ref a29, .ref a30, .ref a31, .ref a32, .ref a33], zi G a1 49 (fun _ => 0)] sz) := by
  refine z_start (QA := (fun A => va_Qi (fun (r : Int32) (_ : Unit) => (p0.toInt ≤ (-1) ∧ r = (-1)) ∨ (1 ≤ p0.toInt ∧ r = (-1)) ∨ (p0.toInt = 0 ∧ r = 0)) (fun (_ : Unit) t => zQ G [] A t) A)) (by decide) ⟨Nat.le_of_ble_eq_true rfl, trivial⟩ ?_
  intro p e s m below meth c A ls E B hr hlocks hin hl
  have hl : lv_has ls 4 [(0, .ref a0), (1, .int p0)] := hl
  have B : zB G A s.heap [zo a0 10 [.int 0, .ref a2, .int 0, .ref a3, .int 0, .ref a4, .ref a5, .ref a6, .ref a7, .ref a8, .int 0, .int 0, .int 0, .int 0, .int 0, .int 0, .int (-1), .int 0, .ref a9, .int 0, .int 0, .ref a10, .int 0, .int 0, .ref a11, .int 0, .int 0, .ref a12, .ref a1, .ref a13, .ref a14, .int 0, .int 0, .ref a15, .ref a16, .ref a17, .ref a18, .ref a19, .int 0, .ref a20, .ref a21, .int 0, .int 0, .ref a22, .ref a23, .ref a24, .ref a25, .ref a26, .int (-1), .ref a27, .ref a28, .ref a29, .ref a30, .ref a31, .ref a32, .ref a33], zi G a1 49 (fun _ => 0)] s.heap [] := B
  refine lv_aload_n E.x E.b dX12_undone_0 rfl (lv_at hl 0 rfl) ?_
  refine lv_iload_n E.x E.b dX12_undone_1 rfl (lv_at hl 1 rfl) ?_
  refine z_calli E B (wc := [zo a0 10 [.int 0, .ref a2, .int 0, .ref a3, .int 0, .ref a4, .ref a5, .ref a6, .ref a7, .ref a8, .int 0, .int 0, .int 0, .int 0, .int 0, .int 0, .int (-1), .int 0, .ref a9, .int 0, .int 0, .ref a10, .int 0, .int 0, .ref a11, .int 0, .int 0, .ref a12, .ref a1, .ref a13, .ref a14, .int 0, .int 0, .ref a15, .ref a16, .ref a17, .ref a18, .ref a19, .int 0, .ref a20, .ref a21, .int 0, .int 0, .ref a22, .ref a23, .ref a24, .ref a25, .ref a26, .int (-1), .ref a27, .ref a28, .ref a29, .ref a30, .ref a31, .ref a32, .ref a33]]) (wr := [zi G a1 49 (fun _ => 0)]) [0] [1] rfl rfl (by decide) (by decide) (z_runV E B (As := [.int p0]) (rest := []) [0] rfl (by decide) mv_X12_isRow t_1458 0 (ci := 10) rfl rfl rfl (c_X12_isRow_193 l G _ a0 a2 a3 a4 a5 a6 a7 a8 a9 a10 a11 a12 a1 a13 a14 a15 a16 a17 a18 a19 a20 a21 a22 a23 a24 a25 a26 a27 a28 a29 a30 a31 a32 a33 p0) rfl rfl ⟨Nat.le_of_ble_eq_true rfl, Nat.le_of_ble_eq_true rfl⟩ rfl hl.1 rfl (Nat.le_of_ble_eq_true rfl) dX12_undone_2 ⟨(Nat.le_of_ble_eq_true rfl), (Nat.le_of_ble_eq_true rfl)⟩) (fun r t H locs hp hB J => ?_)
  have hq := hB
  have B := J _ hq
  have B : zB G A s.heap [zi G a1 49 (fun _ => 0), zo a0 10 [.int 0, .ref a2, .int 0, .ref a3, .int 0, .ref a4, .ref a5, .ref a6, .ref a7, .ref a8, .int 0, .int 0, .int 0, .int 0, .int 0, .int 0, .int (-1), .int 0, .ref a9, .int 0, .int 0, .ref a10, .int 0, .int 0, .ref a11, .int 0, .int 0, .ref a12, .ref a1, .ref a13, .ref a14, .int 0, .int 0, .ref a15, .ref a16, .ref a17, .ref a18, .ref a19, .int 0, .ref a20, .ref a21, .int 0, .int 0, .ref a22, .ref a23, .ref a24, .ref a25, .ref a26, .int (-1), .ref a27, .ref a28, .ref a29, .ref a30, .ref a31, .ref a32, .ref a33]] _ _ := B
  rcases hp with ⟨c_1, rfl⟩ | ⟨c_2, rfl⟩ | ⟨c_3, rfl⟩
  · skip
    refine lv_if_ne (tgt := 10) E.x E.b dX12_undone_5 (by decide) (fun c => absurd (by decide +kernel) c) (fun _ => ?_)
    refine lv_iconst (v := (-1)) E.x E.b dX12_undone_8 (by decide) ?_
    refine W.widen (k := 0) (n := 0) (Nat.le_of_ble_eq_true rfl) (Nat.le_of_ble_eq_true rfl) ?_
    exact z_iret E hr hlocks B (v := (-1)) (Or.inl ⟨(by first | decide | omega), rfl⟩) (fun t ht => z_q B [] (by decide) rfl ht) dX12_undone_9
  · skip
    refine lv_if_ne (tgt := 10) E.x E.b dX12_undone_5 (by decide) (fun c => absurd (by decide +kernel) c) (fun _ => ?_)
    refine lv_iconst (v := (-1)) E.x E.b dX12_undone_8 (by decide) ?_
    refine W.widen (k := 0) (n := 0) (Nat.le_of_ble_eq_true rfl) (Nat.le_of_ble_eq_true rfl) ?_
    exact z_iret E hr hlocks B (v := (-1)) (Or.inr (Or.inl ⟨(by first | decide | omega), rfl⟩)) (fun t ht => z_q B [] (by decide) rfl ht) dX12_undone_9
  · skip
    obtain rfl := zi_pt (x := p0) 0 (by show p0.toInt = 0; omega)
    refine lv_if_ne (tgt := 10) E.x E.b dX12_undone_5 (by decide) (fun _ => ?_) (fun c => absurd c (by decide +kernel))
    refine lv_iload_n E.x E.b dX12_undone_10 rfl (lv_at hl 1 rfl) ?_
    refine lv_istore_n (lv' := [(2, .int 0), (0, .ref a0), (1, .int 0)]) E.x E.b dX12_undone_11 rfl hl (by decide) rfl (fun ls hl => ?_)
    refine lv_aload_n E.x E.b dX12_undone_12 rfl (lv_at hl 1 rfl) ?_
    refine z_calli E B (wc := [zo a0 10 [.int 0, .ref a2, .int 0, .ref a3, .int 0, .ref a4, .ref a5, .ref a6, .ref a7, .ref a8, .int 0, .int 0, .int 0, .int 0, .int 0, .int 0, .int (-1), .int 0, .ref a9, .int 0, .int 0, .ref a10, .int 0, .int 0, .ref a11, .int 0, .int 0, .ref a12, .ref a1, .ref a13, .ref a14, .int 0, .int 0, .ref a15, .ref a16, .ref a17, .ref a18, .ref a19, .int 0, .ref a20, .ref a21, .int 0, .int 0, .ref a22, .ref a23, .ref a24, .ref a25, .ref a26, .int (-1), .ref a27, .ref a28, .ref a29, .ref a30, .ref a31, .ref a32, .ref a33], zi G a1 49 (fun _ => 0)]) (wr := []) [1, 0] [] rfl rfl (by decide) (by decide) (z_runV E B (As := []) (rest := []) [1, 0] rfl (by decide) mv_X12_gates t_1454 0 (ci := 10) rfl rfl rfl (c_X12_gates_160 l G _ a0 a1 a2 a3 a4 a5 a6 a7 a8 a9 a10 a11 a12 a13 a14 a15 a16 a17 a18 a19 a20 a21 a22 a23 a24 a25 a26 a27 a28 a29 a30 a31 a32 a33) rfl rfl ⟨Nat.le_of_ble_eq_true rfl, Nat.le_of_ble_eq_true rfl⟩ rfl hl.1 rfl (Nat.le_of_ble_eq_true rfl) dX12_undone_13 ⟨(Nat.le_of_ble_eq_true rfl), (Nat.le_of_ble_eq_true rfl)⟩) (fun r t H locs hp hB J => ?_)
    have hq := hB
    have B := J _ hq
    have B : zB G A s.heap [zo a0 10 [.int 0, .ref a2, .int 0, .ref a3, .int 0, .ref a4, .ref a5, .ref a6, .ref a7, .ref a8, .int 0, .int 0, .int 0, .int 0, .int 0, .int 0, .int (-1), .int 0, .ref a9, .int 0, .int 0, .ref a10, .int 0, .int 0, .ref a11, .int 0, .int 0, .ref a12, .ref a1, .ref a13, .ref a14, .int 0, .int 0, .ref a15, .ref a16, .ref a17, .ref a18, .ref a19, .int 0, .ref a20, .ref a21, .int 0, .int 0, .ref a22, .ref a23, .ref a24, .ref a25, .ref a26, .int (-1), .ref a27, .ref a28, .ref a29, .ref a30, .ref a31, .ref a32, .ref a33], zi G a1 49 (fun _ => 0)] _ _ := B
    have hp := hp.symm
    subst hp
    refine lv_iconst (v := 1) E.x E.b dX12_undone_16 (by decide) ?_
    refine lv_isub E.x E.b dX12_undone_17 (z_topi (-1) (by decide +kernel) ?_)
    refine lv_istore_n (lv' := [(3, .int (-1)), (2, .int 0), (0, .ref a0), (1, .int 0)]) E.x E.b dX12_undone_18 rfl hl (by decide) rfl (fun ls hl => ?_)
    refine lv_iload_n E.x E.b dX12_undone_19 rfl (lv_at hl 0 rfl) ?_
    refine lv_if_lt (tgt := 39) E.x E.b dX12_undone_20 (by decide) (fun _ => ?_) (fun c => absurd (by decide +kernel) c)
    refine lv_iload_n E.x E.b dX12_undone_39 rfl (lv_at hl 1 rfl) ?_
    refine W.widen (k := 0) (n := 0) (Nat.le_of_ble_eq_true rfl) (Nat.le_of_ble_eq_true rfl) ?_
    exact z_iret E hr hlocks B (v := 0) (Or.inr (Or.inr (⟨(by first | decide | omega), rfl⟩))) (fun t ht => z_q B [] (by decide) rfl ht) dX12_undone_40
set_option maxHeartbeats 4000000 in
set_option maxRecDepth 100000 in
theorem c_X12_common_197 (l : Launch) (G : zGT) (sz : Nat) : Met l yX12_common (.code yX12_common cX12_common 5 (some .int) :: zT) ({ frames := 0, cells := 0, slots := 0, locals := 64 }) (va_Pc [.int 1, .int 1] (zPc G [] sz)) ((fun A => va_Qi (fun (r : Int32) (_ : Unit) => r = 1) (fun (_ : Unit) t => zQ G [] A t) A) (va_A [] sz)) 0 0 (va_A [] sz) := by
  refine z_start (QA := (fun A => va_Qi (fun (r : Int32) (_ : Unit) => r = 1) (fun (_ : Unit) t => zQ G [] A t) A)) (by decide) ⟨Nat.le_of_ble_eq_true rfl, trivial⟩ ?_
  intro p e s m below meth c A ls E B hr hlocks hin hl
  have hl : lv_has ls 5 [(0, .int 1), (1, .int 1)] := hl
  have B : zB G A s.heap [] s.heap [] := B
  refine lv_iload_n E.x E.b dX12_common_0 rfl (lv_at hl 0 rfl) ?_
  refine lv_istore_n (lv' := [(2, .int 1), (0, .int 1), (1, .int 1)]) E.x E.b dX12_common_1 rfl hl (by decide) rfl (fun ls hl => ?_)
  refine lv_iload_n E.x E.b dX12_common_2 rfl (lv_at hl 2 rfl) ?_
  refine lv_istore_n (lv' := [(3, .int 1), (2, .int 1), (0, .int 1), (1, .int 1)]) E.x E.b dX12_common_3 rfl hl (by decide) rfl (fun ls hl => ?_)
  refine lv_iload_n E.x E.b dX12_common_4 rfl (lv_at hl 0 rfl) ?_
  refine lv_if_le (tgt := 21) E.x E.b dX12_common_5 (by decide) (fun c => absurd c (by decide +kernel)) (fun _ => ?_)
  refine lv_iload_n E.x E.b dX12_common_8 rfl (lv_at hl 1 rfl) ?_
  refine lv_iload_n E.x E.b dX12_common_9 rfl (lv_at hl 0 rfl) ?_
  refine lv_irem E.x E.b dX12_common_10 (by decide) (z_topi 0 (by decide +kernel) ?_)
  refine lv_istore (lv' := [(4, .int 0), (3, .int 1), (2, .int 1), (0, .int 1), (1, .int 1)]) E.x E.b dX12_common_11 hl (by decide) rfl (fun ls hl => ?_)
  refine lv_iload_n E.x E.b dX12_common_13 rfl (lv_at hl 1 rfl) ?_
  refine lv_istore_n (lv' := [(2, .int 1), (4, .int 0), (3, .int 1), (0, .int 1), (1, .int 1)]) E.x E.b dX12_common_14 rfl hl (by decide) rfl (fun ls hl => ?_)
  refine lv_iload E.x E.b dX12_common_15 (lv_at hl 1 rfl) ?_
  refine lv_istore_n (lv' := [(3, .int 0), (2, .int 1), (4, .int 0), (0, .int 1), (1, .int 1)]) E.x E.b dX12_common_17 rfl hl (by decide) rfl (fun ls hl => ?_)
  refine lv_goto (tgt := 4) E.x E.b dX12_common_18 (by decide) ?_
  refine lv_iload_n E.x E.b dX12_common_4 rfl (lv_at hl 0 rfl) ?_
  refine lv_if_le (tgt := 21) E.x E.b dX12_common_5 (by decide) (fun _ => ?_) (fun c => absurd (by decide +kernel) c)
  refine lv_iload_n E.x E.b dX12_common_21 rfl (lv_at hl 1 rfl) ?_
  refine W.widen (k := 0) (n := 0) (Nat.le_of_ble_eq_true rfl) (Nat.le_of_ble_eq_true rfl) ?_
  exact z_iret E hr hlocks B (v := 1) rfl (fun t ht => z_q B [] (by decide) rfl ht) dX12_common_22
set_option maxHeartbeats 4000000 in
set_option maxRecDepth 100000 in
theorem c_X12_order_198 (l : Launch) (G : zGT) (sz : Nat) (a0 a1 a2 a3 a4 a5 a6 a7 a8 a9 a10 a11 a12 a13 a14 a15 a16 a17 a18 a19 a20 a21 a22 a23 a24 a25 a26 a27 a28 a29 a30 a31 a32 a33 : Nat) (p0 : Int32) : Met l yX12_order (.code yX12_order cX12_order 10 (some .int) :: zT) ({ frames := 2, cells := 0, slots := 0, locals := 107 }) (va_Pc [.ref a0, .int p0] (zPc G [zo a0 10 [.int 0, .ref a3, .int 0, .ref a4, .int 0, .ref a5, .ref a6, .ref a7, .ref a8, .ref a9, .int 0, .int 0, .int 0, .int 0, .int 0, .int 0, .int (-1), .int 0, .ref a10, .int 0, .int 0, .ref a11, .int 0, .int 0, .ref a12, .int 0, .int 0, .ref a13, .ref a2, .ref a14, .ref a15, .int 0, .int 0, .ref a16, .ref a17, .ref a1, .ref a18, .ref a19, .int 0, .ref a20, .ref a21, .int 0, .int 0, .ref a22, .ref a23, .ref a24, .ref a25, .ref a26, .int (-1), .ref a27, .ref a28, .ref a29, .ref a30, .ref a31, .ref a32, .ref a33], zi G a1 64 (fun _ => 0), zi G a2 49 (fun _ => 0)] sz)) ((fun A => va_Qi (fun (r : Int32) (_ : Unit) => (p0.toInt ≤ (-1) ∧ r = (-1)) ∨ (5 ≤ p0.toInt ∧ r = (-1)) ∨ (p0.toInt = 4 ∧ r = 1) ∨ (p0.toInt = 3 ∧ r = 1) ∨ (p0.toInt = 2 ∧ r = 1) ∨ (p0.toInt = 1 ∧ r = 1) ∨ (p0.toInt = 0 ∧ r = 1)) (fun (_ : Unit) t => zQ G [] A t) A) (va_A [zo a0 10 [.int 0, .ref a3, .int 0, .ref a4, .int 0, .ref a5, .ref a6, .ref a7, .ref a8, .ref a9, .int 0, .int 0, .int 0, .int 0, .int 0, .int 0, .int (-1), .int 0, .ref a10, .int 0, .int 0, .ref a11, .int 0, .int 0, .ref a12, .int 0, .int 0, .ref a13, .ref a2, .ref a14, .ref a15, .int 0, .int 0, .ref a16, .ref a17, .ref a1, .ref a18, .ref a19, .int 0, .ref a20, .ref a21, .int 0, .int 0, .ref a22, .ref a23, .ref a24, .ref a25, .ref a26, .int (-1), .ref a27, .ref a28, .ref a29, .ref a30, .ref a31, .ref a32, .ref a33], zi G a1 64 (fun _ => 0), zi G a2 49 (fun _ => 0)] sz)) 0 0 (va_A [zo a0 10 [.int 0, .ref a3, .int 0, .ref a4, .int 0, .ref a5, .ref a6, .ref a7, .ref a8, .ref a9, .int 0, .int 0, .int 0, .int 0, .int 0, .int 0, .int (-1), .int 0, .ref a10, .int 0, .int 0, .ref a11, .int 0, .int 0, .ref a12, .int 0, .int 0, .ref a13, .ref a2, .ref a14, .ref a15, .int 0, .int 0, .ref a16, .ref a17, .ref a1, .ref a18, .ref a19, .int 0, .ref a20, .ref a21, .int 0, .int 0, .ref a22, .ref a23, .ref a24, .ref a25, .ref a26, .int (-1), .ref a27, .ref a28, .ref a29, .ref a30, .ref a31, .ref a32, .ref a33], zi G a1 64 (fun _ => 0), zi G a2 49 (fun _ => 0)] sz) := by
  refine z_start (QA := (fun A => va_Qi (fun (r : Int32) (_ : Unit) => (p0.toInt ≤ (-1) ∧ r = (-1)) ∨ (5 ≤ p0.toInt ∧ r = (-1)) ∨ (p0.toInt = 4 ∧ r = 1) ∨ (p0.toInt = 3 ∧ r = 1) ∨ (p0.toInt = 2 ∧ r = 1) ∨ (p0.toInt = 1 ∧ r = 1) ∨ (p0.toInt = 0 ∧ r = 1)) (fun (_ : Unit) t => zQ G [] A t) A)) (by decide) ⟨Nat.le_of_ble_eq_true rfl, trivial⟩ ?_
  intro p e s m below meth c A ls E B hr hlocks hin hl
  have hl : lv_has ls 10 [(0, .ref a0), (1, .int p0)] := hl
  have B : zB G A s.heap [zo a0 10 [.int 0, .ref a3, .int 0, .ref a4, .int 0, .ref a5, .ref a6, .ref a7, .ref a8, .ref a9, .int 0, .int 0, .int 0, .int 0, .int 0, .int 0, .int (-1), .int 0, .ref a10, .int 0, .int 0, .ref a11, .int 0, .int 0, .ref a12, .int 0, .int 0, .ref a13, .ref a2, .ref a14, .ref a15, .int 0, .int 0, .ref a16, .ref a17, .ref a1, .ref a18, .ref a19, .int 0, .ref a20, .ref a21, .int 0, .int 0, .ref a22, .ref a23, .ref a24, .ref a25, .ref a26, .int (-1), .ref a27, .ref a28, .ref a29, .ref a30, .ref a31, .ref a32, .ref a33], zi G a1 64 (fun _ => 0), zi G a2 49 (fun _ => 0)] s.heap [] := B
  refine lv_iload_n E.x E.b dX12_order_0 rfl (lv_at hl 1 rfl) ?_
  refine lv_iconst (v := 0) E.x E.b dX12_order_1 (by decide) ?_
  refine lv_iconst (v := 4) E.x E.b dX12_order_2 (by decide) ?_
  refine z_calli E B (wc := []) (wr := [zo a0 10 [.int 0, .ref a3, .int 0, .ref a4, .int 0, .ref a5, .ref a6, .ref a7, .ref a8, .ref a9, .int 0, .int 0, .int 0, .int 0, .int 0, .int 0, .int (-1), .int 0, .ref a10, .int 0, .int 0, .ref a11, .int 0, .int 0, .ref a12, .int 0, .int 0, .ref a13, .ref a2, .ref a14, .ref a15, .int 0, .int 0, .ref a16, .ref a17, .ref a1, .ref a18, .ref a19, .int 0, .ref a20, .ref a21, .int 0, .int 0, .ref a22, .ref a23, .ref a24, .ref a25, .ref a26, .int (-1), .ref a27, .ref a28, .ref a29, .ref a30, .ref a31, .ref a32, .ref a33], zi G a1 64 (fun _ => 0), zi G a2 49 (fun _ => 0)]) [] [0, 1, 2] rfl rfl (by decide) (by decide) (z_runS E B (As := [.int p0, .int 0, .int 4]) (rest := []) [] rfl (by decide) ms_X12_in t_1439 (c_X12_in_167 l G _ p0) rfl rfl ⟨Nat.le_of_ble_eq_true rfl, Nat.le_of_ble_eq_true rfl⟩ rfl hl.1 rfl (Nat.le_of_ble_eq_true rfl) dX12_order_3 ⟨(Nat.le_of_ble_eq_true rfl), (Nat.le_of_ble_eq_true rfl)⟩) (fun r t H locs hp hB J => ?_)
  have hq := hB
  have B := J _ hq
  have B : zB G A s.heap [zo a0 10 [.int 0, .ref a3, .int 0, .ref a4, .int 0, .ref a5, .ref a6, .ref a7, .ref a8, .ref a9, .int 0, .int 0, .int 0, .int 0, .int 0, .int 0, .int (-1), .int 0, .ref a10, .int 0, .int 0, .ref a11, .int 0, .int 0, .ref a12, .int 0, .int 0, .ref a13, .ref a2, .ref a14, .ref a15, .int 0, .int 0, .ref a16, .ref a17, .ref a1, .ref a18, .ref a19, .int 0, .ref a20, .ref a21, .int 0, .int 0, .ref a22, .ref a23, .ref a24, .ref a25, .ref a26, .int (-1), .ref a27, .ref a28, .ref a29, .ref a30, .ref a31, .ref a32, .ref a33], zi G a1 64 (fun _ => 0), zi G a2 49 (fun _ => 0)] _ _ := B
  rcases hp with ⟨c_1, rfl⟩ | ⟨c_2, rfl⟩ | ⟨c_3, c_4, rfl⟩
  · skip
    refine lv_if_ne (tgt := 11) E.x E.b dX12_order_6 (by decide) (fun c => absurd (by decide +kernel) c) (fun _ => ?_)
    refine lv_iconst (v := (-1)) E.x E.b dX12_order_9 (by decide) ?_
    refine W.widen (k := 0) (n := 0) (Nat.le_of_ble_eq_true rfl) (Nat.le_of_ble_eq_true rfl) ?_
    exact z_iret E hr hlocks B (v := (-1)) (Or.inl ⟨(by first | decide | omega), rfl⟩) (fun t ht => z_q B [] (by decide) rfl ht) dX12_order_10
  · skip
    refine lv_if_ne (tgt := 11) E.x E.b dX12_order_6 (by decide) (fun c => absurd (by decide +kernel) c) (fun _ => ?_)
    refine lv_iconst (v := (-1)) E.x E.b dX12_order_9 (by decide) ?_
    refine W.widen (k := 0) (n := 0) (Nat.le_of_ble_eq_true rfl) (Nat.le_of_ble_eq_true rfl) ?_
    exact z_iret E hr hlocks B (v := (-1)) (Or.inr (Or.inl ⟨(by first | decide | omega), rfl⟩)) (fun t ht => z_q B [] (by decide) rfl ht) dX12_order_10
  · skip
    refine lv_if_ne (tgt := 11) E.x E.b dX12_order_6 (by decide) (fun _ => ?_) (fun c => absurd c (by decide +kernel))
    refine lv_aload_n E.x E.b dX12_order_11 rfl (lv_at hl 0 rfl) ?_
    refine lv_aload_n E.x E.b dX12_order_12 rfl (lv_at hl 0 rfl) ?_
    refine z_get E B z_inX12 (ci := 10) rfl 28 (by decide) t_1220 0 rfl rfl dX12_order_13 ?_
    refine z_callv E B (wc := [zo a0 10 [.int 0, .ref a3, .int 0, .ref a4, .int 0, .ref a5, .ref a6, .ref a7, .ref a8, .ref a9, .int 0, .int 0, .int 0, .int 0, .int 0, .int 0, .int (-1), .int 0, .ref a10, .int 0, .int 0, .ref a11, .int 0, .int 0, .ref a12, .int 0, .int 0, .ref a13, .ref a2, .ref a14, .ref a15, .int 0, .int 0, .ref a16, .ref a17, .ref a1, .ref a18, .ref a19, .int 0, .ref a20, .ref a21, .int 0, .int 0, .ref a22, .ref a23, .ref a24, .ref a25, .ref a26, .int (-1), .ref a27, .ref a28, .ref a29, .ref a30, .ref a31, .ref a32, .ref a33], zi G a1 64 (fun _ => 0), zi G a2 49 (fun _ => 0)]) (wr := []) [0, 1, 2] [] rfl rfl (by decide) (by decide) (z_runV E B (As := [.ref a2]) (rest := []) [0, 1, 2] rfl (by decide) mv_X12_laysOrder t_1535 0 (ci := 10) rfl rfl rfl (c_X12_laysOrder_169 l G _ a0 a2 a1 a3 a4 a5 a6 a7 a8 a9 a10 a11 a12 a13 a14 a15 a16 a17 a18 a19 a20 a21 a22 a23 a24 a25 a26 a27 a28 a29 a30 a31 a32 a33) rfl rfl ⟨Nat.le_of_ble_eq_true rfl, Nat.le_of_ble_eq_true rfl⟩ rfl hl.1 rfl (Nat.le_of_ble_eq_true rfl) dX12_order_16 ⟨(Nat.le_of_ble_eq_true rfl), (Nat.le_of_ble_eq_true rfl)⟩) (fun  t H locs hp hB J => ?_)
    have hq := hB
    have B := J _ hq
    have B : zB G A s.heap [zo a0 10 [.int 0, .ref a3, .int 0, .ref a4, .int 0, .ref a5, .ref a6, .ref a7, .ref a8, .ref a9, .int 0, .int 0, .int 0, .int 0, .int 0, .int 0, .int (-1), .int 0, .ref a10, .int 0, .int 0, .ref a11, .int 0, .int 0, .ref a12, .int 0, .int 0, .ref a13, .ref a2, .ref a14, .ref a15, .int 0, .int 0, .ref a16, .ref a17, .ref a1, .ref a18, .ref a19, .int 0, .ref a20, .ref a21, .int 0, .int 0, .ref a22, .ref a23, .ref a24, .ref a25, .ref a26, .int (-1), .ref a27, .ref a28, .ref a29, .ref a30, .ref a31, .ref a32, .ref a33], zi G a1 64 (fun _ => 0), zi G a2 49 (fun _ => 0)] _ _ := B
    refine lv_iconst (v := 0) E.x E.b dX12_order_19 (by decide) ?_
    refine lv_istore_n (lv' := [(2, .int 0), (0, .ref a0), (1, .int p0)]) E.x E.b dX12_order_20 rfl hl (by decide) rfl (fun ls hl => ?_)
    refine lv_iconst (v := 0) E.x E.b dX12_order_21 (by decide) ?_
    refine lv_istore_n (lv' := [(3, .int 0), (2, .int 0), (0, .ref a0), (1, .int p0)]) E.x E.b dX12_order_22 rfl hl (by decide) rfl (fun ls hl => ?_)
    refine lv_iconst (v := 1) E.x E.b dX12_order_23 (by decide) ?_
    refine lv_istore (lv' := [(4, .int 1), (3, .int 0), (2, .int 0), (0, .ref a0), (1, .int p0)]) E.x E.b dX12_order_24 hl (by decide) rfl (fun ls hl => ?_)
    refine lv_iconst (v := 0) E.x E.b dX12_order_26 (by decide) ?_
    refine lv_istore (lv' := [(5, .int 0), (4, .int 1), (3, .int 0), (2, .int 0), (0, .ref a0), (1, .int p0)]) E.x E.b dX12_order_27 hl (by decide) rfl (fun ls hl => ?_)
    refine lv_iconst (v := 0) E.x E.b dX12_order_29 (by decide) ?_
    refine lv_istore (lv' := [(6, .int 0), (5, .int 0), (4, .int 1), (3, .int 0), (2, .int 0), (0, .ref a0), (1, .int p0)]) E.x E.b dX12_order_30 hl (by decide) rfl (fun ls hl => ?_)
    refine lv_iload E.x E.b dX12_order_32 (lv_at hl 0 rfl) ?_
    refine lv_aload_n E.x E.b dX12_order_34 rfl (lv_at hl 5 rfl) ?_
    refine z_calli E B (wc := [zo a0 10 [.int 0, .ref a3, .int 0, .ref a4, .int 0, .ref a5, .ref a6, .ref a7, .ref a8, .ref a9, .int 0, .int 0, .int 0, .int 0, .int 0, .int 0, .int (-1), .int 0, .ref a10, .int 0, .int 0, .ref a11, .int 0, .int 0, .ref a12, .int 0, .int 0, .ref a13, .ref a2, .ref a14, .ref a15, .int 0, .int 0, .ref a16, .ref a17, .ref a1, .ref a18, .ref a19, .int 0, .ref a20, .ref a21, .int 0, .int 0, .ref a22, .ref a23, .ref a24, .ref a25, .ref a26, .int (-1), .ref a27, .ref a28, .ref a29, .ref a30, .ref a31, .ref a32, .ref a33]]) (wr := [zi G a1 64 (fun _ => 0), zi G a2 49 (fun _ => 0)]) [0] [1, 2] rfl rfl (by decide) (by decide) (z_runV E B (As := []) (rest := [.int 0]) [0] rfl (by decide) mv_X12_rows t_1462 0 (ci := 10) rfl rfl rfl (c_X12_rows_168 l G _ a0 a3 a4 a5 a6 a7 a8 a9 a10 a11 a12 a13 a2 a14 a15 a16 a17 a1 a18 a19 a20 a21 a22 a23 a24 a25 a26 a27 a28 a29 a30 a31 a32 a33) rfl rfl ⟨Nat.le_of_ble_eq_true rfl, Nat.le_of_ble_eq_true rfl⟩ rfl hl.1 rfl (Nat.le_of_ble_eq_true rfl) dX12_order_35 ⟨(Nat.le_of_ble_eq_true rfl), (Nat.le_of_ble_eq_true rfl)⟩) (fun r t H locs hp hB J => ?_)
    have hq := hB
    have B := J _ hq
    have B : zB G A s.heap [zi G a1 64 (fun _ => 0), zi G a2 49 (fun _ => 0), zo a0 10 [.int 0, .ref a3, .int 0, .ref a4, .int 0, .ref a5, .ref a6, .ref a7, .ref a8, .ref a9, .int 0, .int 0, .int 0, .int 0, .int 0, .int 0, .int (-1), .int 0, .ref a10, .int 0, .int 0, .ref a11, .int 0, .int 0, .ref a12, .int 0, .int 0, .ref a13, .ref a2, .ref a14, .ref a15, .int 0, .int 0, .ref a16, .ref a17, .ref a1, .ref a18, .ref a19, .int 0, .ref a20, .ref a21, .int 0, .int 0, .ref a22, .ref a23, .ref a24, .ref a25, .ref a26, .int (-1), .ref a27, .ref a28, .ref a29, .ref a30, .ref a31, .ref a32, .ref a33]] _ _ := B
    have hp := hp.symm
    subst hp
    refine lv_icmp_ge (tgt := 142) E.x E.b dX12_order_38 (by decide) (fun c => absurd c (by decide +kernel)) (fun _ => ?_)
    refine lv_iconst (v := 1) E.x E.b dX12_order_41 (by decide) ?_
    refine lv_istore (lv' := [(7, .int 1), (6, .int 0), (5, .int 0), (4, .int 1), (3, .int 0), (2, .int 0), (0, .ref a0), (1, .int p0)]) E.x E.b dX12_order_42 hl (by decide) rfl (fun ls hl => ?_)
    refine lv_iload E.x E.b dX12_order_44 (lv_at hl 1 rfl) ?_
    refine lv_istore (lv' := [(8, .int 0), (7, .int 1), (6, .int 0), (5, .int 0), (4, .int 1), (3, .int 0), (2, .int 0), (0, .ref a0), (1, .int p0)]) E.x E.b dX12_order_46 hl (by decide) rfl (fun ls hl => ?_)
    refine lv_aload_n E.x E.b dX12_order_48 rfl (lv_at hl 7 rfl) ?_
    refine z_get E B z_inX12 (ci := 10) rfl 35 (by decide) t_1227 2 rfl rfl dX12_order_49 ?_
    refine lv_iload E.x E.b dX12_order_52 (lv_at hl 2 rfl) ?_
    refine z_iald E B 0 rfl (show ¬ ((0 : Int32) < 0 ∨ 64 ≤ (0 : Int32).toNatClampNeg) by decide +kernel) dX12_order_54 (z_topi 0 rfl ?_)
    refine lv_istore (lv' := [(9, .int 0), (8, .int 0), (7, .int 1), (6, .int 0), (5, .int 0), (4, .int 1), (3, .int 0), (2, .int 0), (0, .ref a0), (1, .int p0)]) E.x E.b dX12_order_55 hl (by decide) rfl (fun ls hl => ?_)
    refine lv_iload E.x E.b dX12_order_57 (lv_at hl 0 rfl) ?_
    refine lv_iload E.x E.b dX12_order_59 (lv_at hl 3 rfl) ?_
    refine lv_icmp_eq (tgt := 90) E.x E.b dX12_order_61 (by decide) (fun _ => ?_) (fun c => absurd (by decide +kernel) c)
    refine lv_iload E.x E.b dX12_order_90 (lv_at hl 1 rfl) ?_
    refine lv_iload E.x E.b dX12_order_92 (lv_at hl 3 rfl) ?_
    refine lv_icmp_ge (tgt := 100) E.x E.b dX12_order_94 (by decide) (fun _ => ?_) (fun c => absurd (by decide +kernel) c)
    refine lv_iinc (v := 1) (lv' := [(2, .int 1), (9, .int 0), (8, .int 0), (7, .int 1), (6, .int 0), (5, .int 0), (4, .int 1), (3, .int 0), (0, .ref a0), (1, .int p0)]) E.x E.b dX12_order_100 hl (k := 7) rfl (by decide +kernel) (by decide) rfl (fun ls hl => ?_)
    refine lv_iload E.x E.b dX12_order_103 (lv_at hl 3 rfl) ?_
    refine lv_iload_n E.x E.b dX12_order_105 rfl (lv_at hl 7 rfl) ?_
    refine lv_icmp_le (tgt := 112) E.x E.b dX12_order_106 (by decide) (fun c => absurd c (by decide +kernel)) (fun _ => ?_)
    refine lv_iload E.x E.b dX12_order_109 (lv_at hl 3 rfl) ?_
    refine lv_istore_n (lv' := [(3, .int 1), (2, .int 1), (9, .int 0), (8, .int 0), (7, .int 1), (6, .int 0), (5, .int 0), (4, .int 1), (0, .ref a0), (1, .int p0)]) E.x E.b dX12_order_111 rfl hl (by decide) rfl (fun ls hl => ?_)
    refine lv_iload E.x E.b dX12_order_112 (lv_at hl 4 rfl) ?_
    refine lv_iconst (v := 1) E.x E.b dX12_order_114 (by decide) ?_
    refine lv_icmp_ne (tgt := 121) E.x E.b dX12_order_115 (by decide) (fun c => absurd (by decide +kernel) c) (fun _ => ?_)
    refine lv_iinc (v := 1) (lv' := [(5, .int 1), (3, .int 1), (2, .int 1), (9, .int 0), (8, .int 0), (7, .int 1), (6, .int 0), (4, .int 1), (0, .ref a0), (1, .int p0)]) E.x E.b dX12_order_118 hl (k := 6) rfl (by decide +kernel) (by decide) rfl (fun ls hl => ?_)
    refine lv_iload E.x E.b dX12_order_121 (lv_at hl 7 rfl) ?_
    refine lv_iload E.x E.b dX12_order_123 (lv_at hl 7 rfl) ?_
    refine lv_iload E.x E.b dX12_order_125 (lv_at hl 5 rfl) ?_
    refine z_calli E B (wc := []) (wr := [zi G a1 64 (fun _ => 0), zi G a2 49 (fun _ => 0), zo a0 10 [.int 0, .ref a3, .int 0, .ref a4, .int 0, .ref a5, .ref a6, .ref a7, .ref a8, .ref a9, .int 0, .int 0, .int 0, .int 0, .int 0, .int 0, .int (-1), .int 0, .ref a10, .int 0, .int 0, .ref a11, .int 0, .int 0, .ref a12, .int 0, .int 0, .ref a13, .ref a2, .ref a14, .ref a15, .int 0, .int 0, .ref a16, .ref a17, .ref a1, .ref a18, .ref a19, .int 0, .ref a20, .ref a21, .int 0, .int 0, .ref a22, .ref a23, .ref a24, .ref a25, .ref a26, .int (-1), .ref a27, .ref a28, .ref a29, .ref a30, .ref a31, .ref a32, .ref a33]]) [] [0, 1, 2] rfl rfl (by decide) (by decide) (z_runS E B (As := [.int 1, .int 1]) (rest := [.int 1]) [] rfl (by decide) ms_X12_common t_1599 (c_X12_common_197 l G _) rfl rfl ⟨Nat.le_of_ble_eq_true rfl, Nat.le_of_ble_eq_true rfl⟩ rfl hl.1 rfl (Nat.le_of_ble_eq_true rfl) dX12_order_127 ⟨(Nat.le_of_ble_eq_true rfl), (Nat.le_of_ble_eq_true rfl)⟩) (fun r t H locs hp hB J => ?_)
    have hq := hB
    have B := J _ hq
    have B : zB G A s.heap [zi G a1 64 (fun _ => 0), zi G a2 49 (fun _ => 0), zo a0 10 [.int 0, .ref a3, .int 0, .ref a4, .int 0, .ref a5, .ref a6, .ref a7, .ref a8, .ref a9, .int 0, .int 0, .int 0, .int 0, .int 0, .int 0, .int (-1), .int 0, .ref a10, .int 0, .int 0, .ref a11, .int 0, .int 0, .ref a12, .int 0, .int 0, .ref a13, .ref a2, .ref a14, .ref a15, .int 0, .int 0, .ref a16, .ref a17, .ref a1, .ref a18, .ref a19, .int 0, .ref a20, .ref a21, .int 0, .int 0, .ref a22, .ref a23, .ref a24, .ref a25, .ref a26, .int (-1), .ref a27, .ref a28, .ref a29, .ref a30, .ref a31, .ref a32, .ref a33]] _ _ := B
    have hp := hp.symm
    subst hp
    refine lv_idiv E.x E.b dX12_order_130 (by decide) (z_topi 1 (by decide +kernel) ?_)
    refine lv_iload E.x E.b dX12_order_131 (lv_at hl 5 rfl) ?_
    refine lv_imul E.x E.b dX12_order_133 (z_topi 1 (by decide +kernel) ?_)
    refine lv_istore (lv' := [(4, .int 1), (5, .int 1), (3, .int 1), (2, .int 1), (9, .int 0), (8, .int 0), (7, .int 1), (6, .int 0), (0, .ref a0), (1, .int p0)]) E.x E.b dX12_order_134 hl (by decide) rfl (fun ls hl => ?_)
    refine lv_iinc (v := 1) (lv' := [(6, .int 1), (4, .int 1), (5, .int 1), (3, .int 1), (2, .int 1), (9, .int 0), (8, .int 0), (7, .int 1), (0, .ref a0), (1, .int p0)]) E.x E.b dX12_order_136 hl (k := 7) rfl (by decide +kernel) (by decide) rfl (fun ls hl => ?_)
    refine lv_goto (tgt := 32) E.x E.b dX12_order_139 (by decide) ?_
    refine lv_iload E.x E.b dX12_order_32 (lv_at hl 0 rfl) ?_
    refine lv_aload_n E.x E.b dX12_order_34 rfl (lv_at hl 8 rfl) ?_
    refine z_calli E B (wc := [zo a0 10 [.int 0, .ref a3, .int 0, .ref a4, .int 0, .ref a5, .ref a6, .ref a7, .ref a8, .ref a9, .int 0, .int 0, .int 0, .int 0, .int 0, .int 0, .int (-1), .int 0, .ref a10, .int 0, .int 0, .ref a11, .int 0, .int 0, .ref a12, .int 0, .int 0, .ref a13, .ref a2, .ref a14, .ref a15, .int 0, .int 0, .ref a16, .ref a17, .ref a1, .ref a18, .ref a19, .int 0, .ref a20, .ref a21, .int 0, .int 0, .ref a22, .ref a23, .ref a24, .ref a25, .ref a26, .int (-1), .ref a27, .ref a28, .ref a29, .ref a30, .ref a31, .ref a32, .ref a33]]) (wr := [zi G a1 64 (fun _ => 0), zi G a2 49 (fun _ => 0)]) [2] [0, 1] rfl rfl (by decide) (by decide) (z_runV E B (As := []) (rest := [.int 1]) [2] rfl (by decide) mv_X12_rows t_1462 0 (ci := 10) rfl rfl rfl (c_X12_rows_168 l G _ a0 a3 a4 a5 a6 a7 a8 a9 a10 a11 a12 a13 a2 a14 a15 a16 a17 a1 a18 a19 a20 a21 a22 a23 a24 a25 a26 a27 a28 a29 a30 a31 a32 a33) rfl rfl ⟨Nat.le_of_ble_eq_true rfl, Nat.le_of_ble_eq_true rfl⟩ rfl hl.1 rfl (Nat.le_of_ble_eq_true rfl) dX12_order_35 ⟨(Nat.le_of_ble_eq_true rfl), (Nat.le_of_ble_eq_true rfl)⟩) (fun r t H locs hp hB J => ?_)
    have hq := hB
    have B := J _ hq
    have B : zB G A s.heap [zi G a1 64 (fun _ => 0), zi G a2 49 (fun _ => 0), zo a0 10 [.int 0, .ref a3, .int 0, .ref a4, .int 0, .ref a5, .ref a6, .ref a7, .ref a8, .ref a9, .int 0, .int 0, .int 0, .int 0, .int 0, .int 0, .int (-1), .int 0, .ref a10, .int 0, .int 0, .ref a11, .int 0, .int 0, .ref a12, .int 0, .int 0, .ref a13, .ref a2, .ref a14, .ref a15, .int 0, .int 0, .ref a16, .ref a17, .ref a1, .ref a18, .ref a19, .int 0, .ref a20, .ref a21, .int 0, .int 0, .ref a22, .ref a23, .ref a24, .ref a25, .ref a26, .int (-1), .ref a27, .ref a28, .ref a29, .ref a30, .ref a31, .ref a32, .ref a33]] _ _ := B
    have hp := hp.symm
    subst hp
    refine lv_icmp_ge (tgt := 142) E.x E.b dX12_order_38 (by decide) (fun _ => ?_) (fun c => absurd (by decide +kernel) c)
    refine lv_iload_n E.x E.b dX12_order_142 rfl (lv_at hl 9 rfl) ?_
    refine lv_if_ne (tgt := 150) E.x E.b dX12_order_143 (by decide) (fun c_5 => ?_) (fun c_5 => ?_)
    · have c_5f : ¬ p0.toInt = 0 := zi_ne c_5
      refine lv_iload_n E.x E.b dX12_order_150 rfl (lv_at hl 9 rfl) ?_
      refine lv_iconst (v := 1) E.x E.b dX12_order_151 (by decide) ?_
      refine lv_icmp_ne (tgt := 159) E.x E.b dX12_order_152 (by decide) (fun c_6 => ?_) (fun c_6 => ?_)
      · have c_6f : ¬ p0.toInt = 1 := zi_ne c_6
        refine lv_iload_n E.x E.b dX12_order_159 rfl (lv_at hl 9 rfl) ?_
        refine lv_iconst (v := 2) E.x E.b dX12_order_160 (by decide) ?_
        refine lv_icmp_ne (tgt := 169) E.x E.b dX12_order_161 (by decide) (fun c_7 => ?_) (fun c_7 => ?_)
        · have c_7f : ¬ p0.toInt = 2 := zi_ne c_7
          refine lv_iload_n E.x E.b dX12_order_169 rfl (lv_at hl 9 rfl) ?_
          refine lv_iconst (v := 3) E.x E.b dX12_order_170 (by decide) ?_
          refine lv_icmp_ne (tgt := 187) E.x E.b dX12_order_171 (by decide) (fun c_8 => ?_) (fun c_8 => ?_)
          · have c_8f : ¬ p0.toInt = 3 := zi_ne c_8
            obtain rfl := zi_pt (x := p0) 4 (by show p0.toInt = 4; omega)
            refine lv_iload E.x E.b dX12_order_187 (lv_at hl 2 rfl) ?_
            refine W.widen (k := 0) (n := 0) (Nat.le_of_ble_eq_true rfl) (Nat.le_of_ble_eq_true rfl) ?_
            exact z_iret E hr hlocks B (v := 1) (Or.inr (Or.inr (Or.inl ⟨(by first | decide | omega), rfl⟩))) (fun t ht => z_q B [] (by decide) rfl ht) dX12_order_189
          · have c_8f : p0.toInt = 3 := zi_eq c_8
            obtain rfl := zi_pt (x := p0) 3 (by show p0.toInt = 3; omega)
            refine lv_iconst (v := 1) E.x E.b dX12_order_174 (by decide) ?_
            refine lv_aload_n E.x E.b dX12_order_175 rfl (lv_at hl 8 rfl) ?_
            refine z_calli E B (wc := [zo a0 10 [.int 0, .ref a3, .int 0, .ref a4, .int 0, .ref a5, .ref a6, .ref a7, .ref a8, .ref a9, .int 0, .int 0, .int 0, .int 0, .int 0, .int 0, .int (-1), .int 0, .ref a10, .int 0, .int 0, .ref a11, .int 0, .int 0, .ref a12, .int 0, .int 0, .ref a13, .ref a2, .ref a14, .ref a15, .int 0, .int 0, .ref a16, .ref a17, .ref a1, .ref a18, .ref a19, .int 0, .ref a20, .ref a21, .int 0, .int 0, .ref a22, .ref a23, .ref a24, .ref a25, .ref a26, .int (-1), .ref a27, .ref a28, .ref a29, .ref a30, .ref a31, .ref a32, .ref a33]]) (wr := [zi G a1 64 (fun _ => 0), zi G a2 49 (fun _ => 0)]) [2] [0, 1] rfl rfl (by decide) (by decide) (z_runV E B (As := []) (rest := [.int 1]) [2] rfl (by decide) mv_X12_rows t_1462 0 (ci := 10) rfl rfl rfl (c_X12_rows_168 l G _ a0 a3 a4 a5 a6 a7 a8 a9 a10 a11 a12 a13 a2 a14 a15 a16 a17 a1 a18 a19 a20 a21 a22 a23 a24 a25 a26 a27 a28 a29 a30 a31 a32 a33) rfl rfl ⟨Nat.le_of_ble_eq_true rfl, Nat.le_of_ble_eq_true rfl⟩ rfl hl.1 rfl (Nat.le_of_ble_eq_true rfl) dX12_order_176 ⟨(Nat.le_of_ble_eq_true rfl), (Nat.le_of_ble_eq_true rfl)⟩) (fun r t H locs hp hB J => ?_)
            have hq := hB
            have B := J _ hq
            have B : zB G A s.heap [zi G a1 64 (fun _ => 0), zi G a2 49 (fun _ => 0), zo a0 10 [.int 0, .ref a3, .int 0, .ref a4, .int 0, .ref a5, .ref a6, .ref a7, .ref a8, .ref a9, .int 0, .int 0, .int 0, .int 0, .int 0, .int 0, .int (-1), .int 0, .ref a10, .int 0, .int 0, .ref a11, .int 0, .int 0, .ref a12, .int 0, .int 0, .ref a13, .ref a2, .ref a14, .ref a15, .int 0, .int 0, .ref a16, .ref a17, .ref a1, .ref a18, .ref a19, .int 0, .ref a20, .ref a21, .int 0, .int 0, .ref a22, .ref a23, .ref a24, .ref a25, .ref a26, .int (-1), .ref a27, .ref a28, .ref a29, .ref a30, .ref a31, .ref a32, .ref a33]] _ _ := B
            have hp := hp.symm
            subst hp
            refine lv_iload_n E.x E.b dX12_order_179 rfl (lv_at hl 4 rfl) ?_
            refine lv_isub E.x E.b dX12_order_180 (z_topi 0 (by decide +kernel) ?_)
            refine lv_iconst (v := 2) E.x E.b dX12_order_181 (by decide) ?_
            refine lv_irem E.x E.b dX12_order_182 (by decide) (z_topi 0 (by decide +kernel) ?_)
            refine lv_isub E.x E.b dX12_order_183 (z_topi 1 (by decide +kernel) ?_)
            refine lv_goto (tgt := 189) E.x E.b dX12_order_184 (by decide) ?_
            refine W.widen (k := 0) (n := 0) (Nat.le_of_ble_eq_true rfl) (Nat.le_of_ble_eq_true rfl) ?_
            exact z_iret E hr hlocks B (v := 1) (Or.inr (Or.inr (Or.inr (Or.inl ⟨(by first | decide | omega), rfl⟩)))) (fun t ht => z_q B [] (by decide) rfl ht) dX12_order_189
        · have c_7f : p0.toInt = 2 := zi_eq c_7
          obtain rfl := zi_pt (x := p0) 2 (by show p0.toInt = 2; omega)
          refine lv_iload E.x E.b dX12_order_164 (lv_at hl 1 rfl) ?_
          refine lv_goto (tgt := 189) E.x E.b dX12_order_166 (by decide) ?_
          refine W.widen (k := 0) (n := 0) (Nat.le_of_ble_eq_true rfl) (Nat.le_of_ble_eq_true rfl) ?_
          exact z_iret E hr hlocks B (v := 1) (Or.inr (Or.inr (Or.inr (Or.inr (Or.inl ⟨(by first | decide | omega), rfl⟩))))) (fun t ht => z_q B [] (by decide) rfl ht) dX12_order_189
      · have c_6f : p0.toInt = 1 := zi_eq c_6
        obtain rfl := zi_pt (x := p0) 1 (by show p0.toInt = 1; omega)
        refine lv_iload_n E.x E.b dX12_order_155 rfl (lv_at hl 3 rfl) ?_
        refine lv_goto (tgt := 189) E.x E.b dX12_order_156 (by decide) ?_
        refine W.widen (k := 0) (n := 0) (Nat.le_of_ble_eq_true rfl) (Nat.le_of_ble_eq_true rfl) ?_
        exact z_iret E hr hlocks B (v := 1) (Or.inr (Or.inr (Or.inr (Or.inr (Or.inr (Or.inl ⟨(by first | decide | omega), rfl⟩)))))) (fun t ht => z_q B [] (by decide) rfl ht) dX12_order_189
    · have c_5f : p0.toInt = 0 := zi_eq c_5
      obtain rfl := zi_pt (x := p0) 0 (by show p0.toInt = 0; omega)
      refine lv_iload_n E.x E.b dX12_order_146 rfl (lv_at hl 4 rfl) ?_
      refine lv_goto (tgt := 189) E.x E.b dX12_order_147 (by decide) ?_
      refine W.widen (k := 0) (n := 0) (Nat.le_of_ble_eq_true rfl) (Nat.le_of_ble_eq_true rfl) ?_
      exact z_iret E hr hlocks B (v := 1) (Or.inr (Or.inr (Or.inr (Or.inr (Or.inr (Or.inr (⟨(by first | decide | omega), rfl⟩))))))) (fun t ht => z_q B [] (by decide) rfl ht) dX12_order_189
