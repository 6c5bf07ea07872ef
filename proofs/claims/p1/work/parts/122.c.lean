set_option maxHeartbeats 4000000 in
set_option maxRecDepth 100000 in
theorem c_X12_stuck_207 (l : Launch) (G : zGT) (sz : Nat) (a0 a1 a2 a3 a4 a5 a6 a7 a8 a9 a10 a11 a12 a13 a14 a15 a16 a17 a18 a19 a20 a21 a22 a23 a24 a25 a26 a27 a28 a29 a30 a31 a32 a33 : Nat) (p0 p1 : Int32) : Met l yX12_stuck (.code yX12_stuck cX12_stuck 4 (some .int) :: zT) ({ frames := 2, cells := 0, slots := 0, locals := 107 }) (va_Pc [.ref a0, .int p0, .int p1, .int 0] (zPc G [zo a0 10 (.int 0 :: .ref a1 :: .int 0 :: .ref a2 :: .int 0 :: .ref a3 :: .ref a4 :: .ref a5 :: .ref a6 :: .ref a7 :: .int 0 :: .int 0 :: .int 0 :: .int 0 :: .int 0 :: .int 0 :: .int (-1) :: .int 0 :: .ref a8 :: .int 0 :: .int 0 :: .ref a9 :: .int 0 :: .int 0 :: .ref a10 :: .int 0 :: .int 0 :: .ref a11 :: .ref a12 :: .ref a13 :: .ref a14 :: .int 0 :: .int 0 :: .ref a15 :: .ref a16 :: .ref a17 :: .ref a18 :: .ref a19 :: .int 0 :: .ref a20 :: .ref a21 :: .int 0 :: .int 0 :: .ref a22 :: .ref a23 :: .ref a24 :: .ref a25 :: .ref a26 :: .int (-1) :: .ref a27 :: .ref a28 :: .ref a29 :: .ref a30 :: .ref a31 :: .ref a32 :: .ref a33 :: [])] sz)) ((fun A => va_Qi (fun (r : Int32) (_ : Unit) => r = (-1)) (fun (_ : Unit) t => zQ G [] A t) A) (va_A [zo a0 10 (.int 0 :: .ref a1 :: .int 0 :: .ref a2 :: .int 0 :: .ref a3 :: .ref a4 :: .ref a5 :: .ref a6 :: .ref a7 :: .int 0 :: .int 0 :: .int 0 :: .int 0 :: .int 0 :: .int 0 :: .int (-1) :: .int 0 :: .ref a8 :: .int 0 :: .int 0 :: .ref a9 :: .int 0 :: .int 0 :: .ref a10 :: .int 0 :: .int 0 :: .ref a11 :: .ref a12 :: .ref a13 :: .ref a14 :: .int 0 :: .int 0 :: .ref a15 :: .ref a16 :: .ref a17 :: .ref a18 :: .ref a19 :: .int 0 :: .ref a20 :: .ref a21 :: .int 0 :: .int 0 :: .ref a22 :: .ref a23 :: .ref a24 :: .ref a25 :: .ref a26 :: .int (-1) :: .ref a27 :: .ref a28 :: .ref a29 :: .ref a30 :: .ref a31 :: .ref a32 :: .ref a33 :: [])] sz)) 0 0 (va_A [zo a0 10 (.int 0 :: .ref a1 :: .int 0 :: .ref a2 :: .int 0 :: .ref a3 :: .ref a4 :: .ref a5 :: .ref a6 :: .ref a7 :: .int 0 :: .int 0 :: .int 0 :: .int 0 :: .int 0 :: .int 0 :: .int (-1) :: .int 0 :: .ref a8 :: .int 0 :: .int 0 :: .ref a9 :: .int 0 :: .int 0 :: .ref a10 :: .int 0 :: .int 0 :: .ref a11 :: .ref a12 :: .ref a13 :: .ref a14 :: .int 0 :: .int 0 :: .ref a15 :: .ref a16 :: .ref a17 :: .ref a18 :: .ref a19 :: .int 0 :: .ref a20 :: .ref a21 :: .int 0 :: .int 0 :: .ref a22 :: .ref a23 :: .ref a24 :: .ref a25 :: .ref a26 :: .int (-1) :: .ref a27 :: .ref a28 :: .ref a29 :: .ref a30 :: .ref a31 :: .ref a32 :: .ref a33 :: [])] sz) := by
  refine z_start (y := yX12_stuck) (bytes := cX12_stuck) (maxL := 4) (ret := (some .int)) (av := [.ref a0, .int p0, .int p1, .int 0]) (QA := (fun A => va_Qi (fun (r : Int32) (_ : Unit) => r = (-1)) (fun (_ : Unit) t => zQ G [] A t) A)) (by decide) ⟨Nat.le_of_ble_eq_true rfl, trivial⟩ ?_
  intro p e s m below meth c A ls E B hr hlocks hin hl
  have hl : lv_has ls 4 [(0, .ref a0), (1, .int p0), (2, .int p1), (3, .int 0)] := hl
  have B : zB G A s.heap [zo a0 10 (.int 0 :: .ref a1 :: .int 0 :: .ref a2 :: .int 0 :: .ref a3 :: .ref a4 :: .ref a5 :: .ref a6 :: .ref a7 :: .int 0 :: .int 0 :: .int 0 :: .int 0 :: .int 0 :: .int 0 :: .int (-1) :: .int 0 :: .ref a8 :: .int 0 :: .int 0 :: .ref a9 :: .int 0 :: .int 0 :: .ref a10 :: .int 0 :: .int 0 :: .ref a11 :: .ref a12 :: .ref a13 :: .ref a14 :: .int 0 :: .int 0 :: .ref a15 :: .ref a16 :: .ref a17 :: .ref a18 :: .ref a19 :: .int 0 :: .ref a20 :: .ref a21 :: .int 0 :: .int 0 :: .ref a22 :: .ref a23 :: .ref a24 :: .ref a25 :: .ref a26 :: .int (-1) :: .ref a27 :: .ref a28 :: .ref a29 :: .ref a30 :: .ref a31 :: .ref a32 :: .ref a33 :: [])] s.heap [] := B
  refine lv_aload_n E.x E.b dX12_stuck_0 rfl (lv_at hl 0 rfl) ?_
  refine lv_iload_n E.x E.b dX12_stuck_1 rfl (lv_at hl 1 rfl) ?_
  refine z_calli E B (wc := [zo a0 10 (.int 0 :: .ref a1 :: .int 0 :: .ref a2 :: .int 0 :: .ref a3 :: .ref a4 :: .ref a5 :: .ref a6 :: .ref a7 :: .int 0 :: .int 0 :: .int 0 :: .int 0 :: .int 0 :: .int 0 :: .int (-1) :: .int 0 :: .ref a8 :: .int 0 :: .int 0 :: .ref a9 :: .int 0 :: .int 0 :: .ref a10 :: .int 0 :: .int 0 :: .ref a11 :: .ref a12 :: .ref a13 :: .ref a14 :: .int 0 :: .int 0 :: .ref a15 :: .ref a16 :: .ref a17 :: .ref a18 :: .ref a19 :: .int 0 :: .ref a20 :: .ref a21 :: .int 0 :: .int 0 :: .ref a22 :: .ref a23 :: .ref a24 :: .ref a25 :: .ref a26 :: .int (-1) :: .ref a27 :: .ref a28 :: .ref a29 :: .ref a30 :: .ref a31 :: .ref a32 :: .ref a33 :: [])]) (wr := []) [0] [] rfl rfl (by decide) (by decide) (z_runV E B (As := [.int p0]) (rest := []) [0] rfl (by decide) mv_X12_isRow t_1458 0 (ci := 10) rfl rfl rfl (c_X12_isRow_193 l G _ a0 a1 a2 a3 a4 a5 a6 a7 a8 a9 a10 a11 a12 a13 a14 a15 a16 a17 a18 a19 a20 a21 a22 a23 a24 a25 a26 a27 a28 a29 a30 a31 a32 a33 p0) rfl rfl ⟨Nat.le_of_ble_eq_true rfl, Nat.le_of_ble_eq_true rfl⟩ rfl hl.1 rfl (Nat.le_of_ble_eq_true rfl) dX12_stuck_2 ⟨(Nat.le_of_ble_eq_true rfl), (Nat.le_of_ble_eq_true rfl)⟩) (fun r t H locs hp hB J => ?_)
  have hq := hB
  have B := J _ hq
  have B : zB G A s.heap [zo a0 10 (.int 0 :: .ref a1 :: .int 0 :: .ref a2 :: .int 0 :: .ref a3 :: .ref a4 :: .ref a5 :: .ref a6 :: .ref a7 :: .int 0 :: .int 0 :: .int 0 :: .int 0 :: .int 0 :: .int 0 :: .int (-1) :: .int 0 :: .ref a8 :: .int 0 :: .int 0 :: .ref a9 :: .int 0 :: .int 0 :: .ref a10 :: .int 0 :: .int 0 :: .ref a11 :: .ref a12 :: .ref a13 :: .ref a14 :: .int 0 :: .int 0 :: .ref a15 :: .ref a16 :: .ref a17 :: .ref a18 :: .ref a19 :: .int 0 :: .ref a20 :: .ref a21 :: .int 0 :: .int 0 :: .ref a22 :: .ref a23 :: .ref a24 :: .ref a25 :: .ref a26 :: .int (-1) :: .ref a27 :: .ref a28 :: .ref a29 :: .ref a30 :: .ref a31 :: .ref a32 :: .ref a33 :: [])] _ _ := B
  rcases hp with ⟨c_1, rfl⟩ | ⟨c_2, rfl⟩ | ⟨c_3, rfl⟩
  · skip
    refine lv_if_eq (tgt := 40) E.x E.b dX12_stuck_5 (by decide) (fun _ => ?_) (fun c => absurd (by decide +kernel) c)
    refine lv_iconst (v := (-1)) E.x E.b dX12_stuck_40 (by decide) ?_
    refine W.widen (k := 0) (n := 0) (Nat.le_of_ble_eq_true rfl) (Nat.le_of_ble_eq_true rfl) ?_
    exact z_iret E hr hlocks B (v := (-1)) rfl (fun t ht => z_q B [] (by decide) rfl ht) dX12_stuck_41
  · skip
    refine lv_if_eq (tgt := 40) E.x E.b dX12_stuck_5 (by decide) (fun _ => ?_) (fun c => absurd (by decide +kernel) c)
    refine lv_iconst (v := (-1)) E.x E.b dX12_stuck_40 (by decide) ?_
    refine W.widen (k := 0) (n := 0) (Nat.le_of_ble_eq_true rfl) (Nat.le_of_ble_eq_true rfl) ?_
    exact z_iret E hr hlocks B (v := (-1)) rfl (fun t ht => z_q B [] (by decide) rfl ht) dX12_stuck_41
  · skip
    obtain rfl := zi_pt (x := p0) 0 (by show p0.toInt = 0; omega)
    refine lv_if_eq (tgt := 40) E.x E.b dX12_stuck_5 (by decide) (fun c => absurd c (by decide +kernel)) (fun _ => ?_)
    refine lv_iload_n E.x E.b dX12_stuck_8 rfl (lv_at hl 2 rfl) ?_
    refine lv_iconst (v := 0) E.x E.b dX12_stuck_9 (by decide) ?_
    refine lv_aload_n E.x E.b dX12_stuck_10 rfl (lv_at hl 0 rfl) ?_
    refine z_get E B z_inX12 (ci := 10) rfl 17 (by decide) t_1209 0 rfl rfl dX12_stuck_11 ?_
    refine lv_iconst (v := 1) E.x E.b dX12_stuck_14 (by decide) ?_
    refine lv_isub E.x E.b dX12_stuck_15 (z_topi (-1) (by decide +kernel) ?_)
    refine z_calli E B (wc := []) (wr := [zo a0 10 (.int 0 :: .ref a1 :: .int 0 :: .ref a2 :: .int 0 :: .ref a3 :: .ref a4 :: .ref a5 :: .ref a6 :: .ref a7 :: .int 0 :: .int 0 :: .int 0 :: .int 0 :: .int 0 :: .int 0 :: .int (-1) :: .int 0 :: .ref a8 :: .int 0 :: .int 0 :: .ref a9 :: .int 0 :: .int 0 :: .ref a10 :: .int 0 :: .int 0 :: .ref a11 :: .ref a12 :: .ref a13 :: .ref a14 :: .int 0 :: .int 0 :: .ref a15 :: .ref a16 :: .ref a17 :: .ref a18 :: .ref a19 :: .int 0 :: .ref a20 :: .ref a21 :: .int 0 :: .int 0 :: .ref a22 :: .ref a23 :: .ref a24 :: .ref a25 :: .ref a26 :: .int (-1) :: .ref a27 :: .ref a28 :: .ref a29 :: .ref a30 :: .ref a31 :: .ref a32 :: .ref a33 :: [])]) [] [0] rfl rfl (by decide) (by decide) (z_runS E B (As := [.int p1, .int 0, .int (-1)]) (rest := []) [] rfl (by decide) ms_X12_in t_1439 (c_X12_in_162 l G _ p1) rfl rfl ⟨Nat.le_of_ble_eq_true rfl, Nat.le_of_ble_eq_true rfl⟩ rfl hl.1 rfl (Nat.le_of_ble_eq_true rfl) dX12_stuck_16 ⟨(Nat.le_of_ble_eq_true rfl), (Nat.le_of_ble_eq_true rfl)⟩) (fun r t H locs hp hB J => ?_)
    have hq := hB
    have B := J _ hq
    have B : zB G A s.heap [zo a0 10 (.int 0 :: .ref a1 :: .int 0 :: .ref a2 :: .int 0 :: .ref a3 :: .ref a4 :: .ref a5 :: .ref a6 :: .ref a7 :: .int 0 :: .int 0 :: .int 0 :: .int 0 :: .int 0 :: .int 0 :: .int (-1) :: .int 0 :: .ref a8 :: .int 0 :: .int 0 :: .ref a9 :: .int 0 :: .int 0 :: .ref a10 :: .int 0 :: .int 0 :: .ref a11 :: .ref a12 :: .ref a13 :: .ref a14 :: .int 0 :: .int 0 :: .ref a15 :: .ref a16 :: .ref a17 :: .ref a18 :: .ref a19 :: .int 0 :: .ref a20 :: .ref a21 :: .int 0 :: .int 0 :: .ref a22 :: .ref a23 :: .ref a24 :: .ref a25 :: .ref a26 :: .int (-1) :: .ref a27 :: .ref a28 :: .ref a29 :: .ref a30 :: .ref a31 :: .ref a32 :: .ref a33 :: [])] _ _ := B
    have hp := hp.symm
    subst hp
    refine lv_if_eq (tgt := 40) E.x E.b dX12_stuck_19 (by decide) (fun _ => ?_) (fun c => absurd (by decide +kernel) c)
    refine lv_iconst (v := (-1)) E.x E.b dX12_stuck_40 (by decide) ?_
    refine W.widen (k := 0) (n := 0) (Nat.le_of_ble_eq_true rfl) (Nat.le_of_ble_eq_true rfl) ?_
    exact z_iret E hr hlocks B (v := (-1)) rfl (fun t ht => z_q B [] (by decide) rfl ht) dX12_stuck_41
set_option maxHeartbeats 4000000 in
set_option maxRecDepth 100000 in
theorem c_X12_stuck_208 (l : Launch) (G : zGT) (sz : Nat) (a0 a1 a2 a3 a4 a5 a6 a7 a8 a9 a10 a11 a12 a13 a14 a15 a16 a17 a18 a19 a20 a21 a22 a23 a24 a25 a26 a27 a28 a29 a30 a31 a32 a33 : Nat) (p0 p1 : Int32) : Met l yX12_stuck (.code yX12_stuck cX12_stuck 4 (some .int) :: zT) ({ frames := 2, cells := 0, slots := 0, locals := 107 }) (va_Pc [.ref a0, .int p0, .int p1, .int 1] (zPc G [zo a0 10 (.int 0 :: .ref a1 :: .int 0 :: .ref a2 :: .int 0 :: .ref a3 :: .ref a4 :: .ref a5 :: .ref a6 :: .ref a7 :: .int 0 :: .int 0 :: .int 0 :: .int 0 :: .int 0 :: .int 0 :: .int (-1) :: .int 0 :: .ref a8 :: .int 0 :: .int 0 :: .ref a9 :: .int 0 :: .int 0 :: .ref a10 :: .int 0 :: .int 0 :: .ref a11 :: .ref a12 :: .ref a13 :: .ref a14 :: .int 0 :: .int 0 :: .ref a15 :: .ref a16 :: .ref a17 :: .ref a18 :: .ref a19 :: .int 0 :: .ref a20 :: .ref a21 :: .int 0 :: .int 0 :: .ref a22 :: .ref a23 :: .ref a24 :: .ref a25 :: .ref a26 :: .int (-1) :: .ref a27 :: .ref a28 :: .ref a29 :: .ref a30 :: .ref a31 :: .ref a32 :: .ref a33 :: [])] sz)) ((fun A => va_Qi (fun (r : Int32) (_ : Unit) => r = (-1)) (fun (_ : Unit) t => zQ G [] A t) A) (va_A [zo a0 10 (.int 0 :: .ref a1 :: .int 0 :: .ref a2 :: .int 0 :: .ref a3 :: .ref a4 :: .ref a5 :: .ref a6 :: .ref a7 :: .int 0 :: .int 0 :: .int 0 :: .int 0 :: .int 0 :: .int 0 :: .int (-1) :: .int 0 :: .ref a8 :: .int 0 :: .int 0 :: .ref a9 :: .int 0 :: .int 0 :: .ref a10 :: .int 0 :: .int 0 :: .ref a11 :: .ref a12 :: .ref a13 :: .ref a14 :: .int 0 :: .int 0 :: .ref a15 :: .ref a16 :: .ref a17 :: .ref a18 :: .ref a19 :: .int 0 :: .ref a20 :: .ref a21 :: .int 0 :: .int 0 :: .ref a22 :: .ref a23 :: .ref a24 :: .ref a25 :: .ref a26 :: .int (-1) :: .ref a27 :: .ref a28 :: .ref a29 :: .ref a30 :: .ref a31 :: .ref a32 :: .ref a33 :: [])] sz)) 0 0 (va_A [zo a0 10 (.int 0 :: .ref a1 :: .int 0 :: .ref a2 :: .int 0 :: .ref a3 :: .ref a4 :: .ref a5 :: .ref a6 :: .ref a7 :: .int 0 :: .int 0 :: .int 0 :: .int 0 :: .int 0 :: .int 0 :: .int (-1) :: .int 0 :: .ref a8 :: .int 0 :: .int 0 :: .ref a9 :: .int 0 :: .int 0 :: .ref a10 :: .int 0 :: .int 0 :: .ref a11 :: .ref a12 :: .ref a13 :: .ref a14 :: .int 0 :: .int 0 :: .ref a15 :: .ref a16 :: .ref a17 :: .ref a18 :: .ref a19 :: .int 0 :: .ref a20 :: .ref a21 :: .int 0 :: .int 0 :: .ref a22 :: .ref a23 :: .ref a24 :: .ref a25 :: .ref a26 :: .int (-1) :: .ref a27 :: .ref a28 :: .ref a29 :: .ref a30 :: .ref a31 :: .ref a32 :: .ref a33 :: [])] sz) := by
  refine z_start (y := yX12_stuck) (bytes := cX12_stuck) (maxL := 4) (ret := (some .int)) (av := [.ref a0, .int p0, .int p1, .int 1]) (QA := (fun A => va_Qi (fun (r : Int32) (_ : Unit) => r = (-1)) (fun (_ : Unit) t => zQ G [] A t) A)) (by decide) ⟨Nat.le_of_ble_eq_true rfl, trivial⟩ ?_
  intro p e s m below meth c A ls E B hr hlocks hin hl
  have hl : lv_has ls 4 [(0, .ref a0), (1, .int p0), (2, .int p1), (3, .int 1)] := hl
  have B : zB G A s.heap [zo a0 10 (.int 0 :: .ref a1 :: .int 0 :: .ref a2 :: .int 0 :: .ref a3 :: .ref a4 :: .ref a5 :: .ref a6 :: .ref a7 :: .int 0 :: .int 0 :: .int 0 :: .int 0 :: .int 0 :: .int 0 :: .int (-1) :: .int 0 :: .ref a8 :: .int 0 :: .int 0 :: .ref a9 :: .int 0 :: .int 0 :: .ref a10 :: .int 0 :: .int 0 :: .ref a11 :: .ref a12 :: .ref a13 :: .ref a14 :: .int 0 :: .int 0 :: .ref a15 :: .ref a16 :: .ref a17 :: .ref a18 :: .ref a19 :: .int 0 :: .ref a20 :: .ref a21 :: .int 0 :: .int 0 :: .ref a22 :: .ref a23 :: .ref a24 :: .ref a25 :: .ref a26 :: .int (-1) :: .ref a27 :: .ref a28 :: .ref a29 :: .ref a30 :: .ref a31 :: .ref a32 :: .ref a33 :: [])] s.heap [] := B
  refine lv_aload_n E.x E.b dX12_stuck_0 rfl (lv_at hl 0 rfl) ?_
  refine lv_iload_n E.x E.b dX12_stuck_1 rfl (lv_at hl 1 rfl) ?_
  refine z_calli E B (wc := [zo a0 10 (.int 0 :: .ref a1 :: .int 0 :: .ref a2 :: .int 0 :: .ref a3 :: .ref a4 :: .ref a5 :: .ref a6 :: .ref a7 :: .int 0 :: .int 0 :: .int 0 :: .int 0 :: .int 0 :: .int 0 :: .int (-1) :: .int 0 :: .ref a8 :: .int 0 :: .int 0 :: .ref a9 :: .int 0 :: .int 0 :: .ref a10 :: .int 0 :: .int 0 :: .ref a11 :: .ref a12 :: .ref a13 :: .ref a14 :: .int 0 :: .int 0 :: .ref a15 :: .ref a16 :: .ref a17 :: .ref a18 :: .ref a19 :: .int 0 :: .ref a20 :: .ref a21 :: .int 0 :: .int 0 :: .ref a22 :: .ref a23 :: .ref a24 :: .ref a25 :: .ref a26 :: .int (-1) :: .ref a27 :: .ref a28 :: .ref a29 :: .ref a30 :: .ref a31 :: .ref a32 :: .ref a33 :: [])]) (wr := []) [0] [] rfl rfl (by decide) (by decide) (z_runV E B (As := [.int p0]) (rest := []) [0] rfl (by decide) mv_X12_isRow t_1458 0 (ci := 10) rfl rfl rfl (c_X12_isRow_193 l G _ a0 a1 a2 a3 a4 a5 a6 a7 a8 a9 a10 a11 a12 a13 a14 a15 a16 a17 a18 a19 a20 a21 a22 a23 a24 a25 a26 a27 a28 a29 a30 a31 a32 a33 p0) rfl rfl ⟨Nat.le_of_ble_eq_true rfl, Nat.le_of_ble_eq_true rfl⟩ rfl hl.1 rfl (Nat.le_of_ble_eq_true rfl) dX12_stuck_2 ⟨(Nat.le_of_ble_eq_true rfl), (Nat.le_of_ble_eq_true rfl)⟩) (fun r t H locs hp hB J => ?_)
  have hq := hB
  have B := J _ hq
  have B : zB G A s.heap [zo a0 10 (.int 0 :: .ref a1 :: .int 0 :: .ref a2 :: .int 0 :: .ref a3 :: .ref a4 :: .ref a5 :: .ref a6 :: .ref a7 :: .int 0 :: .int 0 :: .int 0 :: .int 0 :: .int 0 :: .int 0 :: .int (-1) :: .int 0 :: .ref a8 :: .int 0 :: .int 0 :: .ref a9 :: .int 0 :: .int 0 :: .ref a10 :: .int 0 :: .int 0 :: .ref a11 :: .ref a12 :: .ref a13 :: .ref a14 :: .int 0 :: .int 0 :: .ref a15 :: .ref a16 :: .ref a17 :: .ref a18 :: .ref a19 :: .int 0 :: .ref a20 :: .ref a21 :: .int 0 :: .int 0 :: .ref a22 :: .ref a23 :: .ref a24 :: .ref a25 :: .ref a26 :: .int (-1) :: .ref a27 :: .ref a28 :: .ref a29 :: .ref a30 :: .ref a31 :: .ref a32 :: .ref a33 :: [])] _ _ := B
  rcases hp with ⟨c_1, rfl⟩ | ⟨c_2, rfl⟩ | ⟨c_3, rfl⟩
  · skip
    refine lv_if_eq (tgt := 40) E.x E.b dX12_stuck_5 (by decide) (fun _ => ?_) (fun c => absurd (by decide +kernel) c)
    refine lv_iconst (v := (-1)) E.x E.b dX12_stuck_40 (by decide) ?_
    refine W.widen (k := 0) (n := 0) (Nat.le_of_ble_eq_true rfl) (Nat.le_of_ble_eq_true rfl) ?_
    exact z_iret E hr hlocks B (v := (-1)) rfl (fun t ht => z_q B [] (by decide) rfl ht) dX12_stuck_41
  · skip
    refine lv_if_eq (tgt := 40) E.x E.b dX12_stuck_5 (by decide) (fun _ => ?_) (fun c => absurd (by decide +kernel) c)
    refine lv_iconst (v := (-1)) E.x E.b dX12_stuck_40 (by decide) ?_
    refine W.widen (k := 0) (n := 0) (Nat.le_of_ble_eq_true rfl) (Nat.le_of_ble_eq_true rfl) ?_
    exact z_iret E hr hlocks B (v := (-1)) rfl (fun t ht => z_q B [] (by decide) rfl ht) dX12_stuck_41
  · skip
    obtain rfl := zi_pt (x := p0) 0 (by show p0.toInt = 0; omega)
    refine lv_if_eq (tgt := 40) E.x E.b dX12_stuck_5 (by decide) (fun c => absurd c (by decide +kernel)) (fun _ => ?_)
    refine lv_iload_n E.x E.b dX12_stuck_8 rfl (lv_at hl 2 rfl) ?_
    refine lv_iconst (v := 0) E.x E.b dX12_stuck_9 (by decide) ?_
    refine lv_aload_n E.x E.b dX12_stuck_10 rfl (lv_at hl 0 rfl) ?_
    refine z_get E B z_inX12 (ci := 10) rfl 17 (by decide) t_1209 0 rfl rfl dX12_stuck_11 ?_
    refine lv_iconst (v := 1) E.x E.b dX12_stuck_14 (by decide) ?_
    refine lv_isub E.x E.b dX12_stuck_15 (z_topi (-1) (by decide +kernel) ?_)
    refine z_calli E B (wc := []) (wr := [zo a0 10 (.int 0 :: .ref a1 :: .int 0 :: .ref a2 :: .int 0 :: .ref a3 :: .ref a4 :: .ref a5 :: .ref a6 :: .ref a7 :: .int 0 :: .int 0 :: .int 0 :: .int 0 :: .int 0 :: .int 0 :: .int (-1) :: .int 0 :: .ref a8 :: .int 0 :: .int 0 :: .ref a9 :: .int 0 :: .int 0 :: .ref a10 :: .int 0 :: .int 0 :: .ref a11 :: .ref a12 :: .ref a13 :: .ref a14 :: .int 0 :: .int 0 :: .ref a15 :: .ref a16 :: .ref a17 :: .ref a18 :: .ref a19 :: .int 0 :: .ref a20 :: .ref a21 :: .int 0 :: .int 0 :: .ref a22 :: .ref a23 :: .ref a24 :: .ref a25 :: .ref a26 :: .int (-1) :: .ref a27 :: .ref a28 :: .ref a29 :: .ref a30 :: .ref a31 :: .ref a32 :: .ref a33 :: [])]) [] [0] rfl rfl (by decide) (by decide) (z_runS E B (As := [.int p1, .int 0, .int (-1)]) (rest := []) [] rfl (by decide) ms_X12_in t_1439 (c_X12_in_162 l G _ p1) rfl rfl ⟨Nat.le_of_ble_eq_true rfl, Nat.le_of_ble_eq_true rfl⟩ rfl hl.1 rfl (Nat.le_of_ble_eq_true rfl) dX12_stuck_16 ⟨(Nat.le_of_ble_eq_true rfl), (Nat.le_of_ble_eq_true rfl)⟩) (fun r t H locs hp hB J => ?_)
    have hq := hB
    have B := J _ hq
    have B : zB G A s.heap [zo a0 10 (.int 0 :: .ref a1 :: .int 0 :: .ref a2 :: .int 0 :: .ref a3 :: .ref a4 :: .ref a5 :: .ref a6 :: .ref a7 :: .int 0 :: .int 0 :: .int 0 :: .int 0 :: .int 0 :: .int 0 :: .int (-1) :: .int 0 :: .ref a8 :: .int 0 :: .int 0 :: .ref a9 :: .int 0 :: .int 0 :: .ref a10 :: .int 0 :: .int 0 :: .ref a11 :: .ref a12 :: .ref a13 :: .ref a14 :: .int 0 :: .int 0 :: .ref a15 :: .ref a16 :: .ref a17 :: .ref a18 :: .ref a19 :: .int 0 :: .ref a20 :: .ref a21 :: .int 0 :: .int 0 :: .ref a22 :: .ref a23 :: .ref a24 :: .ref a25 :: .ref a26 :: .int (-1) :: .ref a27 :: .ref a28 :: .ref a29 :: .ref a30 :: .ref a31 :: .ref a32 :: .ref a33 :: [])] _ _ := B
    have hp := hp.symm
    subst hp
    refine lv_if_eq (tgt := 40) E.x E.b dX12_stuck_19 (by decide) (fun _ => ?_) (fun c => absurd (by decide +kernel) c)
    refine lv_iconst (v := (-1)) E.x E.b dX12_stuck_40 (by decide) ?_
    refine W.widen (k := 0) (n := 0) (Nat.le_of_ble_eq_true rfl) (Nat.le_of_ble_eq_true rfl) ?_
    exact z_iret E hr hlocks B (v := (-1)) rfl (fun t ht => z_q B [] (by decide) rfl ht) dX12_stuck_41
set_option maxHeartbeats 4000000 in
set_option maxRecDepth 100000 in
theorem c_X12_terms_209 (l : Launch) (G : zGT) (sz : Nat) (a0 a1 a2 a3 a4 a5 a6 a7 a8 a9 a10 a11 a12 a13 a14 a15 a16 a17 a18 a19 a20 a21 a22 a23 a24 a25 a26 a27 a28 a29 a30 a31 a32 a33 : Nat) (p0 : Int32) : Met l yX12_terms (.code yX12_terms cX12_terms 2 (some .int) :: zT) ({ frames := 1, cells := 0, slots := 0, locals := 86 }) (va_Pc [.ref a0, .int p0] (zPc G [zo a0 10 (.int 0 :: .ref a1 :: .int 0 :: .ref a2 :: .int 0 :: .ref a3 :: .ref a4 :: .ref a5 :: .ref a6 :: .ref a7 :: .int 0 :: .int 0 :: .int 0 :: .int 0 :: .int 0 :: .int 0 :: .int (-1) :: .int 0 :: .ref a8 :: .int 0 :: .int 0 :: .ref a9 :: .int 0 :: .int 0 :: .ref a10 :: .int 0 :: .int 0 :: .ref a11 :: .ref a12 :: .ref a13 :: .ref a14 :: .int 0 :: .int 0 :: .ref a15 :: .ref a16 :: .ref a17 :: .ref a18 :: .ref a19 :: .int 0 :: .ref a20 :: .ref a21 :: .int 0 :: .int 0 :: .ref a22 :: .ref a23 :: .ref a24 :: .ref a25 :: .ref a26 :: .int (-1) :: .ref a27 :: .ref a28 :: .ref a29 :: .ref a30 :: .ref a31 :: .ref a32 :: .ref a33 :: [])] sz)) ((fun A => va_Qi (fun (r : Int32) (_ : Unit) => r = (-1)) (fun (_ : Unit) t => zQ G [] A t) A) (va_A [zo a0 10 (.int 0 :: .ref a1 :: .int 0 :: .ref a2 :: .int 0 :: .ref a3 :: .ref a4 :: .ref a5 :: .ref a6 :: .ref a7 :: .int 0 :: .int 0 :: .int 0 :: .int 0 :: .int 0 :: .int 0 :: .int (-1) :: .int 0 :: .ref a8 :: .int 0 :: .int 0 :: .ref a9 :: .int 0 :: .int 0 :: .ref a10 :: .int 0 :: .int 0 :: .ref a11 :: .ref a12 :: .ref a13 :: .ref a14 :: .int 0 :: .int 0 :: .ref a15 :: .ref a16 :: .ref a17 :: .ref a18 :: .ref a19 :: .int 0 :: .ref a20 :: .ref a21 :: .int 0 :: .int 0 :: .ref a22 :: .ref a23 :: .ref a24 :: .ref a25 :: .ref a26 :: .int (-1) :: .ref a27 :: .ref a28 :: .ref a29 :: .ref a30 :: .ref a31 :: .ref a32 :: .ref a33 :: [])] sz)) 0 0 (va_A [zo a0 10 (.int 0 :: .ref a1 :: .int 0 :: .ref a2 :: .int 0 :: .ref a3 :: .ref a4 :: .ref a5 :: .ref a6 :: .ref a7 :: .int 0 :: .int 0 :: .int 0 :: .int 0 :: .int 0 :: .int 0 :: .int (-1) :: .int 0 :: .ref a8 :: .int 0 :: .int 0 :: .ref a9 :: .int 0 :: .int 0 :: .ref a10 :: .int 0 :: .int 0 :: .ref a11 :: .ref a12 :: .ref a13 :: .ref a14 :: .int 0 :: .int 0 :: .ref a15 :: .ref a16 :: .ref a17 :: .ref a18 :: .ref a19 :: .int 0 :: .ref a20 :: .ref a21 :: .int 0 :: .int 0 :: .ref a22 :: .ref a23 :: .ref a24 :: .ref a25 :: .ref a26 :: .int (-1) :: .ref a27 :: .ref a28 :: .ref a29 :: .ref a30 :: .ref a31 :: .ref a32 :: .ref a33 :: [])] sz) := by
  refine z_start (y := yX12_terms) (bytes := cX12_terms) (maxL := 2) (ret := (some .int)) (av := [.ref a0, .int p0]) (QA := (fun A => va_Qi (fun (r : Int32) (_ : Unit) => r = (-1)) (fun (_ : Unit) t => zQ G [] A t) A)) (by decide) ⟨Nat.le_of_ble_eq_true rfl, trivial⟩ ?_
  intro p e s m below meth c A ls E B hr hlocks hin hl
  have hl : lv_has ls 2 [(0, .ref a0), (1, .int p0)] := hl
  have B : zB G A s.heap [zo a0 10 (.int 0 :: .ref a1 :: .int 0 :: .ref a2 :: .int 0 :: .ref a3 :: .ref a4 :: .ref a5 :: .ref a6 :: .ref a7 :: .int 0 :: .int 0 :: .int 0 :: .int 0 :: .int 0 :: .int 0 :: .int (-1) :: .int 0 :: .ref a8 :: .int 0 :: .int 0 :: .ref a9 :: .int 0 :: .int 0 :: .ref a10 :: .int 0 :: .int 0 :: .ref a11 :: .ref a12 :: .ref a13 :: .ref a14 :: .int 0 :: .int 0 :: .ref a15 :: .ref a16 :: .ref a17 :: .ref a18 :: .ref a19 :: .int 0 :: .ref a20 :: .ref a21 :: .int 0 :: .int 0 :: .ref a22 :: .ref a23 :: .ref a24 :: .ref a25 :: .ref a26 :: .int (-1) :: .ref a27 :: .ref a28 :: .ref a29 :: .ref a30 :: .ref a31 :: .ref a32 :: .ref a33 :: [])] s.heap [] := B
  refine lv_iload_n E.x E.b dX12_terms_0 rfl (lv_at hl 1 rfl) ?_
  refine lv_iconst (v := 0) E.x E.b dX12_terms_1 (by decide) ?_
  refine lv_aload_n E.x E.b dX12_terms_2 rfl (lv_at hl 0 rfl) ?_
  refine z_get E B z_inX12 (ci := 10) rfl 17 (by decide) t_1209 0 rfl rfl dX12_terms_3 ?_
  refine lv_iconst (v := 1) E.x E.b dX12_terms_6 (by decide) ?_
  refine lv_isub E.x E.b dX12_terms_7 (z_topi (-1) (by decide +kernel) ?_)
  refine z_calli E B (wc := []) (wr := [zo a0 10 (.int 0 :: .ref a1 :: .int 0 :: .ref a2 :: .int 0 :: .ref a3 :: .ref a4 :: .ref a5 :: .ref a6 :: .ref a7 :: .int 0 :: .int 0 :: .int 0 :: .int 0 :: .int 0 :: .int 0 :: .int (-1) :: .int 0 :: .ref a8 :: .int 0 :: .int 0 :: .ref a9 :: .int 0 :: .int 0 :: .ref a10 :: .int 0 :: .int 0 :: .ref a11 :: .ref a12 :: .ref a13 :: .ref a14 :: .int 0 :: .int 0 :: .ref a15 :: .ref a16 :: .ref a17 :: .ref a18 :: .ref a19 :: .int 0 :: .ref a20 :: .ref a21 :: .int 0 :: .int 0 :: .ref a22 :: .ref a23 :: .ref a24 :: .ref a25 :: .ref a26 :: .int (-1) :: .ref a27 :: .ref a28 :: .ref a29 :: .ref a30 :: .ref a31 :: .ref a32 :: .ref a33 :: [])]) [] [0] rfl rfl (by decide) (by decide) (z_runS E B (As := [.int p0, .int 0, .int (-1)]) (rest := []) [] rfl (by decide) ms_X12_in t_1439 (c_X12_in_162 l G _ p0) rfl rfl ⟨Nat.le_of_ble_eq_true rfl, Nat.le_of_ble_eq_true rfl⟩ rfl hl.1 rfl (Nat.le_of_ble_eq_true rfl) dX12_terms_8 ⟨(Nat.le_of_ble_eq_true rfl), (Nat.le_of_ble_eq_true rfl)⟩) (fun r t H locs hp hB J => ?_)
  have hq := hB
  have B := J _ hq
  have B : zB G A s.heap [zo a0 10 (.int 0 :: .ref a1 :: .int 0 :: .ref a2 :: .int 0 :: .ref a3 :: .ref a4 :: .ref a5 :: .ref a6 :: .ref a7 :: .int 0 :: .int 0 :: .int 0 :: .int 0 :: .int 0 :: .int 0 :: .int (-1) :: .int 0 :: .ref a8 :: .int 0 :: .int 0 :: .ref a9 :: .int 0 :: .int 0 :: .ref a10 :: .int 0 :: .int 0 :: .ref a11 :: .ref a12 :: .ref a13 :: .ref a14 :: .int 0 :: .int 0 :: .ref a15 :: .ref a16 :: .ref a17 :: .ref a18 :: .ref a19 :: .int 0 :: .ref a20 :: .ref a21 :: .int 0 :: .int 0 :: .ref a22 :: .ref a23 :: .ref a24 :: .ref a25 :: .ref a26 :: .int (-1) :: .ref a27 :: .ref a28 :: .ref a29 :: .ref a30 :: .ref a31 :: .ref a32 :: .ref a33 :: [])] _ _ := B
  have hp := hp.symm
  subst hp
  refine lv_if_eq (tgt := 22) E.x E.b dX12_terms_11 (by decide) (fun _ => ?_) (fun c => absurd (by decide +kernel) c)
  refine lv_iconst (v := (-1)) E.x E.b dX12_terms_22 (by decide) ?_
  refine W.widen (k := 0) (n := 0) (Nat.le_of_ble_eq_true rfl) (Nat.le_of_ble_eq_true rfl) ?_
  exact z_iret E hr hlocks B (v := (-1)) rfl (fun t ht => z_q B [] (by decide) rfl ht) dX12_terms_23
set_option maxHeartbeats 4000000 in
set_option maxRecDepth 100000 in
theorem c_X12_in_210 (l : Launch) (G : zGT) (sz : Nat) (p0 : Int32) : Met l yX12_in (.code yX12_in cX12_in 3 (some .boolean) :: zT) ({ frames := 0, cells := 0, slots := 0, locals := 64 }) (va_Pc [.int p0, .int 0, .int 1] (zPc G [] sz)) ((fun A => va_Qi (fun (r : Int32) (_ : Unit) => (p0.toInt ≤ (-1) ∧ r = 0) ∨ (2 ≤ p0.toInt ∧ r = 0) ∨ (0 ≤ p0.toInt ∧ p0.toInt ≤ 1 ∧ r = 1)) (fun (_ : Unit) t => zQ G [] A t) A) (va_A [] sz)) 0 0 (va_A [] sz) := by
  refine z_start (y := yX12_in) (bytes := cX12_in) (maxL := 3) (ret := (some .boolean)) (av := [.int p0, .int 0, .int 1]) (QA := (fun A => va_Qi (fun (r : Int32) (_ : Unit) => (p0.toInt ≤ (-1) ∧ r = 0) ∨ (2 ≤ p0.toInt ∧ r = 0) ∨ (0 ≤ p0.toInt ∧ p0.toInt ≤ 1 ∧ r = 1)) (fun (_ : Unit) t => zQ G [] A t) A)) (by decide) ⟨Nat.le_of_ble_eq_true rfl, trivial⟩ ?_
  intro p e s m below meth c A ls E B hr hlocks hin hl
  have hl : lv_has ls 3 [(0, .int p0), (1, .int 0), (2, .int 1)] := hl
  have B : zB G A s.heap [] s.heap [] := B
  refine lv_iload_n E.x E.b dX12_in_0 rfl (lv_at hl 0 rfl) ?_
  refine lv_iload_n E.x E.b dX12_in_1 rfl (lv_at hl 1 rfl) ?_
  refine lv_icmp_lt (tgt := 14) E.x E.b dX12_in_2 (by decide) (fun c_1 => ?_) (fun c_1 => ?_)
  · have c_1f : p0.toInt < 0 := zi_lt c_1
    refine lv_iconst (v := 0) E.x E.b dX12_in_14 (by decide) ?_
    refine W.widen (k := 0) (n := 0) (Nat.le_of_ble_eq_true rfl) (Nat.le_of_ble_eq_true rfl) ?_
    exact z_zret E hr hlocks B (v := 0) rfl (Or.inl ⟨(by first | decide | omega), rfl⟩) (fun t ht => z_q B [] (by decide) rfl ht) dX12_in_15
  · have c_1f : 0 ≤ p0.toInt := zi_nlt c_1
    refine lv_iload_n E.x E.b dX12_in_5 rfl (lv_at hl 0 rfl) ?_
    refine lv_iload_n E.x E.b dX12_in_6 rfl (lv_at hl 2 rfl) ?_
    refine lv_icmp_gt (tgt := 14) E.x E.b dX12_in_7 (by decide) (fun c_2 => ?_) (fun c_2 => ?_)
    · have c_2f : 1 < p0.toInt := zi_lt c_2
      refine lv_iconst (v := 0) E.x E.b dX12_in_14 (by decide) ?_
      refine W.widen (k := 0) (n := 0) (Nat.le_of_ble_eq_true rfl) (Nat.le_of_ble_eq_true rfl) ?_
      exact z_zret E hr hlocks B (v := 0) rfl (Or.inr (Or.inl ⟨(by first | decide | omega), rfl⟩)) (fun t ht => z_q B [] (by decide) rfl ht) dX12_in_15
    · have c_2f : p0.toInt ≤ 1 := zi_nlt c_2
      refine lv_iconst (v := 1) E.x E.b dX12_in_10 (by decide) ?_
      refine lv_goto (tgt := 15) E.x E.b dX12_in_11 (by decide) ?_
      refine W.widen (k := 0) (n := 0) (Nat.le_of_ble_eq_true rfl) (Nat.le_of_ble_eq_true rfl) ?_
      exact z_zret E hr hlocks B (v := 1) rfl (Or.inr (Or.inr (⟨(by first | decide | omega), (by first | decide | omega), rfl⟩))) (fun t ht => z_q B [] (by decide) rfl ht) dX12_in_15
set_option maxHeartbeats 4000000 in
set_option maxRecDepth 100000 in
theorem c_X12_idle_211 (l : Launch) (G : zGT) (sz : Nat) (a0 a1 a2 a3 a4 a5 a6 a7 a8 a9 a10 a11 a12 a13 a14 a15 a16 a17 a18 a19 a20 a21 a22 a23 a24 a25 a26 a27 a28 a29 a30 a31 a32 a33 : Nat) (p0 : Int32) : Met l yX12_idle (.code yX12_idle cX12_idle 4 (some .int) :: zT) ({ frames := 1, cells := 0, slots := 0, locals := 86 }) (va_Pc [.ref a0, .int p0] (zPc G [zo a0 10 (.int 0 :: .ref a2 :: .int 0 :: .ref a3 :: .int 0 :: .ref a4 :: .ref a5 :: .ref a6 :: .ref a7 :: .ref a8 :: .int 0 :: .int 0 :: .int 0 :: .int 0 :: .int 0 :: .int 0 :: .int (-1) :: .int 0 :: .ref a9 :: .int 0 :: .int 0 :: .ref a10 :: .int 0 :: .int 0 :: .ref a11 :: .int 0 :: .int 0 :: .ref a12 :: .ref a1 :: .ref a13 :: .ref a14 :: .int 0 :: .int 0 :: .ref a15 :: .ref a16 :: .ref a17 :: .ref a18 :: .ref a19 :: .int 0 :: .ref a20 :: .ref a21 :: .int 0 :: .int 0 :: .ref a22 :: .ref a23 :: .ref a24 :: .ref a25 :: .ref a26 :: .int (-1) :: .ref a27 :: .ref a28 :: .ref a29 :: .ref a30 :: .ref a31 :: .ref a32 :: .ref a33 :: []), zi G a1 49 (fun _ => 0)] sz)) ((fun A => va_Qi (fun (r : Int32) (_ : Unit) => (p0.toInt ≤ (-1) ∧ r = (-1)) ∨ (2 ≤ p0.toInt ∧ r = (-1)) ∨ (0 ≤ p0.toInt ∧ p0.toInt ≤ 1 ∧ r = (-2))) (fun (_ : Unit) t => zQ G [] A t) A) (va_A [zo a0 10 (.int 0 :: .ref a2 :: .int 0 :: .ref a3 :: .int 0 :: .ref a4 :: .ref a5 :: .ref a6 :: .ref a7 :: .ref a8 :: .int 0 :: .int 0 :: .int 0 :: .int 0 :: .int 0 :: .int 0 :: .int (-1) :: .int 0 :: .ref a9 :: .int 0 :: .int 0 :: .ref a10 :: .int 0 :: .int 0 :: .ref a11 :: .int 0 :: .int 0 :: .ref a12 :: .ref a1 :: .ref a13 :: .ref a14 :: .int 0 :: .int 0 :: .ref a15 :: .ref a16 :: .ref a17 :: .ref a18 :: .ref a19 :: .int 0 :: .ref a20 :: .ref a21 :: .int 0 :: .int 0 :: .ref a22 :: .ref a23 :: .ref a24 :: .ref a25 :: .ref a26 :: .int (-1) :: .ref a27 :: .ref a28 :: .ref a29 :: .ref a30 :: .ref a31 :: .ref a32 :: .ref a33 :: []), zi G a1 49 (fun _ => 0)] sz)) 0 0 (va_A [zo a0 10 (.int 0 :: .ref a2 :: .int 0 :: .ref a3 :: .int 0 :: .ref a4 :: .ref a5 :: .ref a6 :: .ref a7 :: .ref a8 :: .int 0 :: .int 0 :: .int 0 :: .int 0 :: .int 0 :: .int 0 :: .int (-1) :: .int 0 :: .ref a9 :: .int 0 :: .int 0 :: .ref a10 :: .int 0 :: .int 0 :: .ref a11 :: .int 0 :: .int 0 :: .ref a12 :: .ref a1 :: .ref a13 :: .ref a14 :: .int 0 :: .int 0 :: .ref a15 :: .ref a16 :: .ref a17 :: .ref a18 :: .ref a19 :: .int 0 :: .ref a20 :: .ref a21 :: .int 0 :: .int 0 :: .ref a22 :: .ref a23 :: .ref a24 :: .ref a25 :: .ref a26 :: .int (-1) :: .ref a27 :: .ref a28 :: .ref a29 :: .ref a30 :: .ref a31 :: .ref a32 :: .ref a33 :: []), zi G a1 49 (fun _ => 0)] sz) := by
  refine z_start (y := yX12_idle) (bytes := cX12_idle) (maxL := 4) (ret := (some .int)) (av := [.ref a0, .int p0]) (QA := (fun A => va_Qi (fun (r : Int32) (_ : Unit) => (p0.toInt ≤ (-1) ∧ r = (-1)) ∨ (2 ≤ p0.toInt ∧ r = (-1)) ∨ (0 ≤ p0.toInt ∧ p0.toInt ≤ 1 ∧ r = (-2))) (fun (_ : Unit) t => zQ G [] A t) A)) (by decide) ⟨Nat.le_of_ble_eq_true rfl, trivial⟩ ?_
  intro p e s m below meth c A ls E B hr hlocks hin hl
  have hl : lv_has ls 4 [(0, .ref a0), (1, .int p0)] := hl
  have B : zB G A s.heap [zo a0 10 (.int 0 :: .ref a2 :: .int 0 :: .ref a3 :: .int 0 :: .ref a4 :: .ref a5 :: .ref a6 :: .ref a7 :: .ref a8 :: .int 0 :: .int 0 :: .int 0 :: .int 0 :: .int 0 :: .int 0 :: .int (-1) :: .int 0 :: .ref a9 :: .int 0 :: .int 0 :: .ref a10 :: .int 0 :: .int 0 :: .ref a11 :: .int 0 :: .int 0 :: .ref a12 :: .ref a1 :: .ref a13 :: .ref a14 :: .int 0 :: .int 0 :: .ref a15 :: .ref a16 :: .ref a17 :: .ref a18 :: .ref a19 :: .int 0 :: .ref a20 :: .ref a21 :: .int 0 :: .int 0 :: .ref a22 :: .ref a23 :: .ref a24 :: .ref a25 :: .ref a26 :: .int (-1) :: .ref a27 :: .ref a28 :: .ref a29 :: .ref a30 :: .ref a31 :: .ref a32 :: .ref a33 :: []), zi G a1 49 (fun _ => 0)] s.heap [] := B
  refine lv_iload_n E.x E.b dX12_idle_0 rfl (lv_at hl 1 rfl) ?_
  refine lv_iconst (v := 0) E.x E.b dX12_idle_1 (by decide) ?_
  refine lv_iconst (v := 1) E.x E.b dX12_idle_2 (by decide) ?_
  refine z_calli E B (wc := []) (wr := [zo a0 10 (.int 0 :: .ref a2 :: .int 0 :: .ref a3 :: .int 0 :: .ref a4 :: .ref a5 :: .ref a6 :: .ref a7 :: .ref a8 :: .int 0 :: .int 0 :: .int 0 :: .int 0 :: .int 0 :: .int 0 :: .int (-1) :: .int 0 :: .ref a9 :: .int 0 :: .int 0 :: .ref a10 :: .int 0 :: .int 0 :: .ref a11 :: .int 0 :: .int 0 :: .ref a12 :: .ref a1 :: .ref a13 :: .ref a14 :: .int 0 :: .int 0 :: .ref a15 :: .ref a16 :: .ref a17 :: .ref a18 :: .ref a19 :: .int 0 :: .ref a20 :: .ref a21 :: .int 0 :: .int 0 :: .ref a22 :: .ref a23 :: .ref a24 :: .ref a25 :: .ref a26 :: .int (-1) :: .ref a27 :: .ref a28 :: .ref a29 :: .ref a30 :: .ref a31 :: .ref a32 :: .ref a33 :: []), zi G a1 49 (fun _ => 0)]) [] [0, 1] rfl rfl (by decide) (by decide) (z_runS E B (As := [.int p0, .int 0, .int 1]) (rest := []) [] rfl (by decide) ms_X12_in t_1439 (c_X12_in_210 l G _ p0) rfl rfl ⟨Nat.le_of_ble_eq_true rfl, Nat.le_of_ble_eq_true rfl⟩ rfl hl.1 rfl (Nat.le_of_ble_eq_true rfl) dX12_idle_3 ⟨(Nat.le_of_ble_eq_true rfl), (Nat.le_of_ble_eq_true rfl)⟩) (fun r t H locs hp hB J => ?_)
  have hq := hB
  have B := J _ hq
  have B : zB G A s.heap [zo a0 10 (.int 0 :: .ref a2 :: .int 0 :: .ref a3 :: .int 0 :: .ref a4 :: .ref a5 :: .ref a6 :: .ref a7 :: .ref a8 :: .int 0 :: .int 0 :: .int 0 :: .int 0 :: .int 0 :: .int 0 :: .int (-1) :: .int 0 :: .ref a9 :: .int 0 :: .int 0 :: .ref a10 :: .int 0 :: .int 0 :: .ref a11 :: .int 0 :: .int 0 :: .ref a12 :: .ref a1 :: .ref a13 :: .ref a14 :: .int 0 :: .int 0 :: .ref a15 :: .ref a16 :: .ref a17 :: .ref a18 :: .ref a19 :: .int 0 :: .ref a20 :: .ref a21 :: .int 0 :: .int 0 :: .ref a22 :: .ref a23 :: .ref a24 :: .ref a25 :: .ref a26 :: .int (-1) :: .ref a27 :: .ref a28 :: .ref a29 :: .ref a30 :: .ref a31 :: .ref a32 :: .ref a33 :: []), zi G a1 49 (fun _ => 0)] _ _ := B
  rcases hp with ⟨c_1, rfl⟩ | ⟨c_2, rfl⟩ | ⟨c_3, c_4, rfl⟩
  · skip
    refine lv_if_ne (tgt := 11) E.x E.b dX12_idle_6 (by decide) (fun c => absurd (by decide +kernel) c) (fun _ => ?_)
    refine lv_iconst (v := (-1)) E.x E.b dX12_idle_9 (by decide) ?_
    refine W.widen (k := 0) (n := 0) (Nat.le_of_ble_eq_true rfl) (Nat.le_of_ble_eq_true rfl) ?_
    exact z_iret E hr hlocks B (v := (-1)) (Or.inl ⟨(by first | decide | omega), rfl⟩) (fun t ht => z_q B [] (by decide) rfl ht) dX12_idle_10
  · skip
    refine lv_if_ne (tgt := 11) E.x E.b dX12_idle_6 (by decide) (fun c => absurd (by decide +kernel) c) (fun _ => ?_)
    refine lv_iconst (v := (-1)) E.x E.b dX12_idle_9 (by decide) ?_
    refine W.widen (k := 0) (n := 0) (Nat.le_of_ble_eq_true rfl) (Nat.le_of_ble_eq_true rfl) ?_
    exact z_iret E hr hlocks B (v := (-1)) (Or.inr (Or.inl ⟨(by first | decide | omega), rfl⟩)) (fun t ht => z_q B [] (by decide) rfl ht) dX12_idle_10
  · skip
    refine lv_if_ne (tgt := 11) E.x E.b dX12_idle_6 (by decide) (fun _ => ?_) (fun c => absurd c (by decide +kernel))
    refine lv_iconst (v := 1) E.x E.b dX12_idle_11 (by decide) ?_
    refine lv_istore_n (lv' := [(2, .int 1), (0, .ref a0), (1, .int p0)]) E.x E.b dX12_idle_12 rfl hl (by decide) rfl (fun ls hl => ?_)
    refine lv_iload_n E.x E.b dX12_idle_13 rfl (lv_at hl 0 rfl) ?_
    refine lv_aload_n E.x E.b dX12_idle_14 rfl (lv_at hl 1 rfl) ?_
    refine z_calli E B (wc := [zo a0 10 (.int 0 :: .ref a2 :: .int 0 :: .ref a3 :: .int 0 :: .ref a4 :: .ref a5 :: .ref a6 :: .ref a7 :: .ref a8 :: .int 0 :: .int 0 :: .int 0 :: .int 0 :: .int 0 :: .int 0 :: .int (-1) :: .int 0 :: .ref a9 :: .int 0 :: .int 0 :: .ref a10 :: .int 0 :: .int 0 :: .ref a11 :: .int 0 :: .int 0 :: .ref a12 :: .ref a1 :: .ref a13 :: .ref a14 :: .int 0 :: .int 0 :: .ref a15 :: .ref a16 :: .ref a17 :: .ref a18 :: .ref a19 :: .int 0 :: .ref a20 :: .ref a21 :: .int 0 :: .int 0 :: .ref a22 :: .ref a23 :: .ref a24 :: .ref a25 :: .ref a26 :: .int (-1) :: .ref a27 :: .ref a28 :: .ref a29 :: .ref a30 :: .ref a31 :: .ref a32 :: .ref a33 :: []), zi G a1 49 (fun _ => 0)]) (wr := []) [0, 1] [] rfl rfl (by decide) (by decide) (z_runV E B (As := []) (rest := [.int 1]) [0, 1] rfl (by decide) mv_X12_gates t_1454 0 (ci := 10) rfl rfl rfl (c_X12_gates_160 l G _ a0 a1 a2 a3 a4 a5 a6 a7 a8 a9 a10 a11 a12 a13 a14 a15 a16 a17 a18 a19 a20 a21 a22 a23 a24 a25 a26 a27 a28 a29 a30 a31 a32 a33) rfl rfl ⟨Nat.le_of_ble_eq_true rfl, Nat.le_of_ble_eq_true rfl⟩ rfl hl.1 rfl (Nat.le_of_ble_eq_true rfl) dX12_idle_15 ⟨(Nat.le_of_ble_eq_true rfl), (Nat.le_of_ble_eq_true rfl)⟩) (fun r t H locs hp hB J => ?_)
    have hq := hB
    have B := J _ hq
    have B : zB G A s.heap [zo a0 10 (.int 0 :: .ref a2 :: .int 0 :: .ref a3 :: .int 0 :: .ref a4 :: .ref a5 :: .ref a6 :: .ref a7 :: .ref a8 :: .int 0 :: .int 0 :: .int 0 :: .int 0 :: .int 0 :: .int 0 :: .int (-1) :: .int 0 :: .ref a9 :: .int 0 :: .int 0 :: .ref a10 :: .int 0 :: .int 0 :: .ref a11 :: .int 0 :: .int 0 :: .ref a12 :: .ref a1 :: .ref a13 :: .ref a14 :: .int 0 :: .int 0 :: .ref a15 :: .ref a16 :: .ref a17 :: .ref a18 :: .ref a19 :: .int 0 :: .ref a20 :: .ref a21 :: .int 0 :: .int 0 :: .ref a22 :: .ref a23 :: .ref a24 :: .ref a25 :: .ref a26 :: .int (-1) :: .ref a27 :: .ref a28 :: .ref a29 :: .ref a30 :: .ref a31 :: .ref a32 :: .ref a33 :: []), zi G a1 49 (fun _ => 0)] _ _ := B
    have hp := hp.symm
    subst hp
    refine lv_icmp_gt (tgt := 72) E.x E.b dX12_idle_18 (by decide) (fun _ => ?_) (fun c => absurd (by decide +kernel) c)
    refine lv_bipush (v := (-2)) E.x E.b dX12_idle_72 (by decide) ?_
    refine W.widen (k := 0) (n := 0) (Nat.le_of_ble_eq_true rfl) (Nat.le_of_ble_eq_true rfl) ?_
    exact z_iret E hr hlocks B (v := (-2)) (Or.inr (Or.inr (⟨(by first | decide | omega), (by first | decide | omega), rfl⟩))) (fun t ht => z_q B [] (by decide) rfl ht) dX12_idle_74
set_option maxHeartbeats 4000000 in
set_option maxRecDepth 100000 in
theorem c_X12_seenBy_212 (l : Launch) (G : zGT) (sz : Nat) (a0 a1 a2 a3 a4 a5 a6 a7 a8 a9 a10 a11 a12 a13 a14 a15 a16 a17 a18 a19 a20 a21 a22 a23 a24 a25 a26 a27 a28 a29 a30 a31 a32 a33 : Nat) : Met l yX12_seenBy (.code yX12_seenBy cX12_seenBy 4 (some .int) :: zT) ({ frames := 0, cells := 0, slots := 0, locals := 64 }) (va_Pc [.ref a0, .int 0] (zPc G [zo a0 10 (.int 0 :: .ref a1 :: .int 0 :: .ref a2 :: .int 0 :: .ref a3 :: .ref a4 :: .ref a5 :: .ref a6 :: .ref a7 :: .int 0 :: .int 0 :: .int 0 :: .int 0 :: .int 0 :: .int 0 :: .int (-1) :: .int 0 :: .ref a8 :: .int 0 :: .int 0 :: .ref a9 :: .int 0 :: .int 0 :: .ref a10 :: .int 0 :: .int 0 :: .ref a11 :: .ref a12 :: .ref a13 :: .ref a14 :: .int 0 :: .int 0 :: .ref a15 :: .ref a16 :: .ref a17 :: .ref a18 :: .ref a19 :: .int 0 :: .ref a20 :: .ref a21 :: .int 0 :: .int 0 :: .ref a22 :: .ref a23 :: .ref a24 :: .ref a25 :: .ref a26 :: .int (-1) :: .ref a27 :: .ref a28 :: .ref a29 :: .ref a30 :: .ref a31 :: .ref a32 :: .ref a33 :: [])] sz)) ((fun A => va_Qi (fun (r : Int32) (_ : Unit) => r = 0) (fun (_ : Unit) t => zQ G [zo a0 10 (.int 0 :: .ref a1 :: .int 0 :: .ref a2 :: .int 0 :: .ref a3 :: .ref a4 :: .ref a5 :: .ref a6 :: .ref a7 :: .int 0 :: .int 0 :: .int 0 :: .int 0 :: .int 0 :: .int 0 :: .int (-1) :: .int 0 :: .ref a8 :: .int 0 :: .int 0 :: .ref a9 :: .int 0 :: .int 0 :: .ref a10 :: .int 0 :: .int 0 :: .ref a11 :: .ref a12 :: .ref a13 :: .ref a14 :: .int 0 :: .int 0 :: .ref a15 :: .ref a16 :: .ref a17 :: .ref a18 :: .ref a19 :: .int 0 :: .ref a20 :: .ref a21 :: .int 0 :: .int 0 :: .ref a22 :: .ref a23 :: .ref a24 :: .ref a25 :: .ref a26 :: .int (-1) :: .ref a27 :: .ref a28 :: .ref a29 :: .ref a30 :: .ref a31 :: .ref a32 :: .ref a33 :: [])] A t) A) (va_A [zo a0 10 (.int 0 :: .ref a1 :: .int 0 :: .ref a2 :: .int 0 :: .ref a3 :: .ref a4 :: .ref a5 :: .ref a6 :: .ref a7 :: .int 0 :: .int 0 :: .int 0 :: .int 0 :: .int 0 :: .int 0 :: .int (-1) :: .int 0 :: .ref a8 :: .int 0 :: .int 0 :: .ref a9 :: .int 0 :: .int 0 :: .ref a10 :: .int 0 :: .int 0 :: .ref a11 :: .ref a12 :: .ref a13 :: .ref a14 :: .int 0 :: .int 0 :: .ref a15 :: .ref a16 :: .ref a17 :: .ref a18 :: .ref a19 :: .int 0 :: .ref a20 :: .ref a21 :: .int 0 :: .int 0 :: .ref a22 :: .ref a23 :: .ref a24 :: .ref a25 :: .ref a26 :: .int (-1) :: .ref a27 :: .ref a28 :: .ref a29 :: .ref a30 :: .ref a31 :: .ref a32 :: .ref a33 :: [])] sz)) 0 0 (va_A [zo a0 10 (.int 0 :: .ref a1 :: .int 0 :: .ref a2 :: .int 0 :: .ref a3 :: .ref a4 :: .ref a5 :: .ref a6 :: .ref a7 :: .int 0 :: .int 0 :: .int 0 :: .int 0 :: .int 0 :: .int 0 :: .int (-1) :: .int 0 :: .ref a8 :: .int 0 :: .int 0 :: .ref a9 :: .int 0 :: .int 0 :: .ref a10 :: .int 0 :: .int 0 :: .ref a11 :: .ref a12 :: .ref a13 :: .ref a14 :: .int 0 :: .int 0 :: .ref a15 :: .ref a16 :: .ref a17 :: .ref a18 :: .ref a19 :: .int 0 :: .ref a20 :: .ref a21 :: .int 0 :: .int 0 :: .ref a22 :: .ref a23 :: .ref a24 :: .ref a25 :: .ref a26 :: .int (-1) :: .ref a27 :: .ref a28 :: .ref a29 :: .ref a30 :: .ref a31 :: .ref a32 :: .ref a33 :: [])] sz) := by
  refine z_start (y := yX12_seenBy) (bytes := cX12_seenBy) (maxL := 4) (ret := (some .int)) (av := [.ref a0, .int 0]) (QA := (fun A => va_Qi (fun (r : Int32) (_ : Unit) => r = 0) (fun (_ : Unit) t => zQ G [zo a0 10 (.int 0 :: .ref a1 :: .int 0 :: .ref a2 :: .int 0 :: .ref a3 :: .ref a4 :: .ref a5 :: .ref a6 :: .ref a7 :: .int 0 :: .int 0 :: .int 0 :: .int 0 :: .int 0 :: .int 0 :: .int (-1) :: .int 0 :: .ref a8 :: .int 0 :: .int 0 :: .ref a9 :: .int 0 :: .int 0 :: .ref a10 :: .int 0 :: .int 0 :: .ref a11 :: .ref a12 :: .ref a13 :: .ref a14 :: .int 0 :: .int 0 :: .ref a15 :: .ref a16 :: .ref a17 :: .ref a18 :: .ref a19 :: .int 0 :: .ref a20 :: .ref a21 :: .int 0 :: .int 0 :: .ref a22 :: .ref a23 :: .ref a24 :: .ref a25 :: .ref a26 :: .int (-1) :: .ref a27 :: .ref a28 :: .ref a29 :: .ref a30 :: .ref a31 :: .ref a32 :: .ref a33 :: [])] A t) A)) (by decide) ⟨Nat.le_of_ble_eq_true rfl, trivial⟩ ?_
  intro p e s m below meth c A ls E B hr hlocks hin hl
  have hl : lv_has ls 4 [(0, .ref a0), (1, .int 0)] := hl
  have B : zB G A s.heap [zo a0 10 (.int 0 :: .ref a1 :: .int 0 :: .ref a2 :: .int 0 :: .ref a3 :: .ref a4 :: .ref a5 :: .ref a6 :: .ref a7 :: .int 0 :: .int 0 :: .int 0 :: .int 0 :: .int 0 :: .int 0 :: .int (-1) :: .int 0 :: .ref a8 :: .int 0 :: .int 0 :: .ref a9 :: .int 0 :: .int 0 :: .ref a10 :: .int 0 :: .int 0 :: .ref a11 :: .ref a12 :: .ref a13 :: .ref a14 :: .int 0 :: .int 0 :: .ref a15 :: .ref a16 :: .ref a17 :: .ref a18 :: .ref a19 :: .int 0 :: .ref a20 :: .ref a21 :: .int 0 :: .int 0 :: .ref a22 :: .ref a23 :: .ref a24 :: .ref a25 :: .ref a26 :: .int (-1) :: .ref a27 :: .ref a28 :: .ref a29 :: .ref a30 :: .ref a31 :: .ref a32 :: .ref a33 :: [])] s.heap [] := B
  refine lv_iconst (v := 0) E.x E.b dX12_seenBy_0 (by decide) ?_
  refine lv_istore_n (lv' := [(2, .int 0), (0, .ref a0), (1, .int 0)]) E.x E.b dX12_seenBy_1 rfl hl (by decide) rfl (fun ls hl => ?_)
  refine lv_iconst (v := 0) E.x E.b dX12_seenBy_2 (by decide) ?_
  refine lv_istore_n (lv' := [(3, .int 0), (2, .int 0), (0, .ref a0), (1, .int 0)]) E.x E.b dX12_seenBy_3 rfl hl (by decide) rfl (fun ls hl => ?_)
  refine lv_iload_n E.x E.b dX12_seenBy_4 rfl (lv_at hl 0 rfl) ?_
  refine lv_iconst (v := 2) E.x E.b dX12_seenBy_5 (by decide) ?_
  refine lv_aload_n E.x E.b dX12_seenBy_6 rfl (lv_at hl 2 rfl) ?_
  refine z_get E B z_inX12 (ci := 10) rfl 17 (by decide) t_1209 0 rfl rfl dX12_seenBy_7 ?_
  refine lv_imul E.x E.b dX12_seenBy_10 (z_topi 0 (by decide +kernel) ?_)
  refine lv_icmp_ge (tgt := 50) E.x E.b dX12_seenBy_11 (by decide) (fun _ => ?_) (fun c => absurd (by decide +kernel) c)
  refine lv_iload_n E.x E.b dX12_seenBy_50 rfl (lv_at hl 1 rfl) ?_
  refine W.widen (k := 0) (n := 0) (Nat.le_of_ble_eq_true rfl) (Nat.le_of_ble_eq_true rfl) ?_
  exact z_iret E hr hlocks B (v := 0) rfl (fun t ht => z_q B [0] (by decide) rfl ht) dX12_seenBy_51
set_option maxHeartbeats 4000000 in
set_option maxRecDepth 100000 in
theorem c_X12_has_213 (l : Launch) (G : zGT) (sz : Nat) : Met l yX12_has (.code yX12_has cX12_has 2 (some .boolean) :: zT) ({ frames := 0, cells := 0, slots := 0, locals := 64 }) (va_Pc [.int 0, .int 0] (zPc G [] sz)) ((fun A => va_Qi (fun (r : Int32) (_ : Unit) => r = 0) (fun (_ : Unit) t => zQ G [] A t) A) (va_A [] sz)) 0 0 (va_A [] sz) := by
  refine z_start (y := yX12_has) (bytes := cX12_has) (maxL := 2) (ret := (some .boolean)) (av := [.int 0, .int 0]) (QA := (fun A => va_Qi (fun (r : Int32) (_ : Unit) => r = 0) (fun (_ : Unit) t => zQ G [] A t) A)) (by decide) ⟨Nat.le_of_ble_eq_true rfl, trivial⟩ ?_
  intro p e s m below meth c A ls E B hr hlocks hin hl
  have hl : lv_has ls 2 [(0, .int 0), (1, .int 0)] := hl
  have B : zB G A s.heap [] s.heap [] := B
  refine lv_iload_n E.x E.b dX12_has_0 rfl (lv_at hl 0 rfl) ?_
  refine lv_iload_n E.x E.b dX12_has_1 rfl (lv_at hl 1 rfl) ?_
  refine lv_ishr E.x E.b dX12_has_2 (z_topi 0 (by decide +kernel) ?_)
  refine lv_iconst (v := 1) E.x E.b dX12_has_3 (by decide) ?_
  refine lv_iand E.x E.b dX12_has_4 (z_topi 0 (by decide +kernel) ?_)
  refine lv_iconst (v := 1) E.x E.b dX12_has_5 (by decide) ?_
  refine lv_icmp_ne (tgt := 13) E.x E.b dX12_has_6 (by decide) (fun _ => ?_) (fun c => absurd c (by decide +kernel))
  refine lv_iconst (v := 0) E.x E.b dX12_has_13 (by decide) ?_
  refine W.widen (k := 0) (n := 0) (Nat.le_of_ble_eq_true rfl) (Nat.le_of_ble_eq_true rfl) ?_
  exact z_zret E hr hlocks B (v := 0) rfl rfl (fun t ht => z_q B [] (by decide) rfl ht) dX12_has_14
set_option maxHeartbeats 4000000 in
set_option maxRecDepth 100000 in
theorem c_X12_bitsOf_214 (l : Launch) (G : zGT) (sz : Nat) : Met l yX12_bitsOf (.code yX12_bitsOf cX12_bitsOf 3 (some .int) :: zT) ({ frames := 0, cells := 0, slots := 0, locals := 64 }) (va_Pc [.int 1] (zPc G [] sz)) ((fun A => va_Qi (fun (r : Int32) (_ : Unit) => r = 1) (fun (_ : Unit) t => zQ G [] A t) A) (va_A [] sz)) 0 0 (va_A [] sz) := by
  refine z_start (y := yX12_bitsOf) (bytes := cX12_bitsOf) (maxL := 3) (ret := (some .int)) (av := [.int 1]) (QA := (fun A => va_Qi (fun (r : Int32) (_ : Unit) => r = 1) (fun (_ : Unit) t => zQ G [] A t) A)) (by decide) ⟨Nat.le_of_ble_eq_true rfl, trivial⟩ ?_
  intro p e s m below meth c A ls E B hr hlocks hin hl
  have hl : lv_has ls 3 [(0, .int 1)] := hl
  have B : zB G A s.heap [] s.heap [] := B
  refine lv_iconst (v := 0) E.x E.b dX12_bitsOf_0 (by decide) ?_
  refine lv_istore_n (lv' := [(1, .int 0), (0, .int 1)]) E.x E.b dX12_bitsOf_1 rfl hl (by decide) rfl (fun ls hl => ?_)
  refine lv_iload_n E.x E.b dX12_bitsOf_2 rfl (lv_at hl 1 rfl) ?_
  refine lv_istore_n (lv' := [(2, .int 1), (1, .int 0), (0, .int 1)]) E.x E.b dX12_bitsOf_3 rfl hl (by decide) rfl (fun ls hl => ?_)
  refine lv_iload_n E.x E.b dX12_bitsOf_4 rfl (lv_at hl 0 rfl) ?_
  refine lv_if_le (tgt := 21) E.x E.b dX12_bitsOf_5 (by decide) (fun c => absurd c (by decide +kernel)) (fun _ => ?_)
  refine lv_iload_n E.x E.b dX12_bitsOf_8 rfl (lv_at hl 1 rfl) ?_
  refine lv_iload_n E.x E.b dX12_bitsOf_9 rfl (lv_at hl 0 rfl) ?_
  refine lv_iconst (v := 1) E.x E.b dX12_bitsOf_10 (by decide) ?_
  refine lv_iand E.x E.b dX12_bitsOf_11 (z_topi 1 (by decide +kernel) ?_)
  refine lv_iadd E.x E.b dX12_bitsOf_12 (z_topi 1 (by decide +kernel) ?_)
  refine lv_istore_n (lv' := [(1, .int 1), (2, .int 1), (0, .int 1)]) E.x E.b dX12_bitsOf_13 rfl hl (by decide) rfl (fun ls hl => ?_)
  refine lv_iload_n E.x E.b dX12_bitsOf_14 rfl (lv_at hl 1 rfl) ?_
  refine lv_iconst (v := 1) E.x E.b dX12_bitsOf_15 (by decide) ?_
  refine lv_ishr E.x E.b dX12_bitsOf_16 (z_topi 0 (by decide +kernel) ?_)
  refine lv_istore_n (lv' := [(2, .int 0), (1, .int 1), (0, .int 1)]) E.x E.b dX12_bitsOf_17 rfl hl (by decide) rfl (fun ls hl => ?_)
  refine lv_goto (tgt := 4) E.x E.b dX12_bitsOf_18 (by decide) ?_
  refine lv_iload_n E.x E.b dX12_bitsOf_4 rfl (lv_at hl 0 rfl) ?_
  refine lv_if_le (tgt := 21) E.x E.b dX12_bitsOf_5 (by decide) (fun _ => ?_) (fun c => absurd (by decide +kernel) c)
  refine lv_iload_n E.x E.b dX12_bitsOf_21 rfl (lv_at hl 1 rfl) ?_
  refine W.widen (k := 0) (n := 0) (Nat.le_of_ble_eq_true rfl) (Nat.le_of_ble_eq_true rfl) ?_
  exact z_iret E hr hlocks B (v := 1) rfl (fun t ht => z_q B [] (by decide) rfl ht) dX12_bitsOf_22
set_option maxHeartbeats 4000000 in
set_option maxRecDepth 100000 in
theorem c_X12_isFirst_215 (l : Launch) (G : zGT) (sz : Nat) : Met l yX12_isFirst (.code yX12_isFirst cX12_isFirst 3 (some .boolean) :: zT) ({ frames := 1, cells := 0, slots := 0, locals := 86 }) (va_Pc [.int 1, .int 0] (zPc G [] sz)) ((fun A => va_Qi (fun (r : Int32) (_ : Unit) => r = 0) (fun (_ : Unit) t => zQ G [] A t) A) (va_A [] sz)) 0 0 (va_A [] sz) := by
  refine z_start (y := yX12_isFirst) (bytes := cX12_isFirst) (maxL := 3) (ret := (some .boolean)) (av := [.int 1, .int 0]) (QA := (fun A => va_Qi (fun (r : Int32) (_ : Unit) => r = 0) (fun (_ : Unit) t => zQ G [] A t) A)) (by decide) ⟨Nat.le_of_ble_eq_true rfl, trivial⟩ ?_
  intro p e s m below meth c A ls E B hr hlocks hin hl
  have hl : lv_has ls 3 [(0, .int 1), (1, .int 0)] := hl
  have B : zB G A s.heap [] s.heap [] := B
  refine lv_iload_n E.x E.b dX12_isFirst_0 rfl (lv_at hl 0 rfl) ?_
  refine z_calli E B (wc := []) (wr := []) [] [] rfl rfl (by decide) (by decide) (z_runS E B (As := [.int 1]) (rest := []) [] rfl (by decide) ms_X12_bitsOf t_1514 (c_X12_bitsOf_214 l G _) rfl rfl ⟨Nat.le_of_ble_eq_true rfl, Nat.le_of_ble_eq_true rfl⟩ rfl hl.1 rfl (Nat.le_of_ble_eq_true rfl) dX12_isFirst_1 ⟨(Nat.le_of_ble_eq_true rfl), (Nat.le_of_ble_eq_true rfl)⟩) (fun r t H locs hp hB J => ?_)
  have hq := hB
  have B := J _ hq
  have B : zB G A s.heap [] _ _ := B
  have hp := hp.symm
  subst hp
  refine lv_iload_n E.x E.b dX12_isFirst_4 rfl (lv_at hl 1 rfl) ?_
  refine z_calli E B (wc := []) (wr := []) [] [] rfl rfl (by decide) (by decide) (z_runS E B (As := [.int 0]) (rest := [.int 1]) [] rfl (by decide) ms_X12_bitsOf t_1514 (c_X12_bitsOf_171 l G _) rfl rfl ⟨Nat.le_of_ble_eq_true rfl, Nat.le_of_ble_eq_true rfl⟩ rfl hl.1 rfl (Nat.le_of_ble_eq_true rfl) dX12_isFirst_5 ⟨(Nat.le_of_ble_eq_true rfl), (Nat.le_of_ble_eq_true rfl)⟩) (fun r t H locs hp hB J => ?_)
  have hq := hB
  have B := J _ hq
  have B : zB G A s.heap [] _ _ := B
  have hp := hp.symm
  subst hp
  refine lv_icmp_eq (tgt := 28) E.x E.b dX12_isFirst_8 (by decide) (fun c => absurd c (by decide +kernel)) (fun _ => ?_)
  refine lv_iload_n E.x E.b dX12_isFirst_11 rfl (lv_at hl 0 rfl) ?_
  refine z_calli E B (wc := []) (wr := []) [] [] rfl rfl (by decide) (by decide) (z_runS E B (As := [.int 1]) (rest := []) [] rfl (by decide) ms_X12_bitsOf t_1514 (c_X12_bitsOf_214 l G _) rfl rfl ⟨Nat.le_of_ble_eq_true rfl, Nat.le_of_ble_eq_true rfl⟩ rfl hl.1 rfl (Nat.le_of_ble_eq_true rfl) dX12_isFirst_12 ⟨(Nat.le_of_ble_eq_true rfl), (Nat.le_of_ble_eq_true rfl)⟩) (fun r t H locs hp hB J => ?_)
  have hq := hB
  have B := J _ hq
  have B : zB G A s.heap [] _ _ := B
  have hp := hp.symm
  subst hp
  refine lv_iload_n E.x E.b dX12_isFirst_15 rfl (lv_at hl 1 rfl) ?_
  refine z_calli E B (wc := []) (wr := []) [] [] rfl rfl (by decide) (by decide) (z_runS E B (As := [.int 0]) (rest := [.int 1]) [] rfl (by decide) ms_X12_bitsOf t_1514 (c_X12_bitsOf_171 l G _) rfl rfl ⟨Nat.le_of_ble_eq_true rfl, Nat.le_of_ble_eq_true rfl⟩ rfl hl.1 rfl (Nat.le_of_ble_eq_true rfl) dX12_isFirst_16 ⟨(Nat.le_of_ble_eq_true rfl), (Nat.le_of_ble_eq_true rfl)⟩) (fun r t H locs hp hB J => ?_)
  have hq := hB
  have B := J _ hq
  have B : zB G A s.heap [] _ _ := B
  have hp := hp.symm
  subst hp
  refine lv_icmp_ge (tgt := 26) E.x E.b dX12_isFirst_19 (by decide) (fun _ => ?_) (fun c => absurd (by decide +kernel) c)
  refine lv_iconst (v := 0) E.x E.b dX12_isFirst_26 (by decide) ?_
  refine W.widen (k := 0) (n := 0) (Nat.le_of_ble_eq_true rfl) (Nat.le_of_ble_eq_true rfl) ?_
  exact z_zret E hr hlocks B (v := 0) rfl rfl (fun t ht => z_q B [] (by decide) rfl ht) dX12_isFirst_27
set_option maxHeartbeats 4000000 in
set_option maxRecDepth 100000 in
theorem c_X12_testRows_216 (l : Launch) (G : zGT) (sz : Nat) (a0 a1 a2 a3 a4 a5 a6 a7 a8 a9 a10 a11 a12 a13 a14 a15 a16 a17 a18 a19 a20 a21 a22 a23 a24 a25 a26 a27 a28 a29 a30 a31 a32 a33 : Nat) : Met l yX12_testRows (.code yX12_testRows cX12_testRows 6 (some .int) :: zT) ({ frames := 2, cells := 0, slots := 0, locals := 108 }) (va_Pc [.ref a0] (zPc G [zo a0 10 (.int 0 :: .ref a2 :: .int 0 :: .ref a3 :: .int 0 :: .ref a4 :: .ref a5 :: .ref a6 :: .ref a7 :: .ref a8 :: .int 0 :: .int 0 :: .int 0 :: .int 0 :: .int 0 :: .int 0 :: .int (-1) :: .int 0 :: .ref a9 :: .int 0 :: .int 0 :: .ref a10 :: .int 0 :: .int 0 :: .ref a11 :: .int 0 :: .int 0 :: .ref a12 :: .ref a13 :: .ref a14 :: .ref a15 :: .int 0 :: .int 0 :: .ref a16 :: .ref a17 :: .ref a18 :: .ref a19 :: .ref a20 :: .int 0 :: .ref a21 :: .ref a22 :: .int 0 :: .int 0 :: .ref a23 :: .ref a24 :: .ref a25 :: .ref a26 :: .ref a27 :: .int (-1) :: .ref a28 :: .ref a29 :: .ref a30 :: .ref a31 :: .ref a32 :: .ref a1 :: .ref a33 :: []), zi G a1 16 (fun _ => 0)] sz)) ((fun A => va_Qi (fun (r : Int32) (_ : Unit) => r = 0) (fun (_ : Unit) t => zQ G [zo a0 10 (.int 0 :: .ref a2 :: .int 0 :: .ref a3 :: .int 0 :: .ref a4 :: .ref a5 :: .ref a6 :: .ref a7 :: .ref a8 :: .int 0 :: .int 0 :: .int 0 :: .int 0 :: .int 0 :: .int 0 :: .int (-1) :: .int 0 :: .ref a9 :: .int 0 :: .int 0 :: .ref a10 :: .int 0 :: .int 0 :: .ref a11 :: .int 0 :: .int 0 :: .ref a12 :: .ref a13 :: .ref a14 :: .ref a15 :: .int 0 :: .int 0 :: .ref a16 :: .ref a17 :: .ref a18 :: .ref a19 :: .ref a20 :: .int 0 :: .ref a21 :: .ref a22 :: .int 0 :: .int 0 :: .ref a23 :: .ref a24 :: .ref a25 :: .ref a26 :: .ref a27 :: .int (-1) :: .ref a28 :: .ref a29 :: .ref a30 :: .ref a31 :: .ref a32 :: .ref a1 :: .ref a33 :: []), zi G a1 16 (fun _ => 0)] A t) A) (va_A [zo a0 10 (.int 0 :: .ref a2 :: .int 0 :: .ref a3 :: .int 0 :: .ref a4 :: .ref a5 :: .ref a6 :: .ref a7 :: .ref a8 :: .int 0 :: .int 0 :: .int 0 :: .int 0 :: .int 0 :: .int 0 :: .int (-1) :: .int 0 :: .ref a9 :: .int 0 :: .int 0 :: .ref a10 :: .int 0 :: .int 0 :: .ref a11 :: .int 0 :: .int 0 :: .ref a12 :: .ref a13 :: .ref a14 :: .ref a15 :: .int 0 :: .int 0 :: .ref a16 :: .ref a17 :: .ref a18 :: .ref a19 :: .ref a20 :: .int 0 :: .ref a21 :: .ref a22 :: .int 0 :: .int 0 :: .ref a23 :: .ref a24 :: .ref a25 :: .ref a26 :: .ref a27 :: .int (-1) :: .ref a28 :: .ref a29 :: .ref a30 :: .ref a31 :: .ref a32 :: .ref a1 :: .ref a33 :: []), zi G a1 16 (fun _ => 0)] sz)) 0 0 (va_A [zo a0 10 (.int 0 :: .ref a2 :: .int 0 :: .ref a3 :: .int 0 :: .ref a4 :: .ref a5 :: .ref a6 :: .ref a7 :: .ref a8 :: .int 0 :: .int 0 :: .int 0 :: .int 0 :: .int 0 :: .int 0 :: .int (-1) :: .int 0 :: .ref a9 :: .int 0 :: .int 0 :: .ref a10 :: .int 0 :: .int 0 :: .ref a11 :: .int 0 :: .int 0 :: .ref a12 :: .ref a13 :: .ref a14 :: .ref a15 :: .int 0 :: .int 0 :: .ref a16 :: .ref a17 :: .ref a18 :: .ref a19 :: .ref a20 :: .int 0 :: .ref a21 :: .ref a22 :: .int 0 :: .int 0 :: .ref a23 :: .ref a24 :: .ref a25 :: .ref a26 :: .ref a27 :: .int (-1) :: .ref a28 :: .ref a29 :: .ref a30 :: .ref a31 :: .ref a32 :: .ref a1 :: .ref a33 :: []), zi G a1 16 (fun _ => 0)] sz) := by
  refine z_start (y := yX12_testRows) (bytes := cX12_testRows) (maxL := 6) (ret := (some .int)) (av := [.ref a0]) (QA := (fun A => va_Qi (fun (r : Int32) (_ : Unit) => r = 0) (fun (_ : Unit) t => zQ G [zo a0 10 (.int 0 :: .ref a2 :: .int 0 :: .ref a3 :: .int 0 :: .ref a4 :: .ref a5 :: .ref a6 :: .ref a7 :: .ref a8 :: .int 0 :: .int 0 :: .int 0 :: .int 0 :: .int 0 :: .int 0 :: .int (-1) :: .int 0 :: .ref a9 :: .int 0 :: .int 0 :: .ref a10 :: .int 0 :: .int 0 :: .ref a11 :: .int 0 :: .int 0 :: .ref a12 :: .ref a13 :: .ref a14 :: .ref a15 :: .int 0 :: .int 0 :: .ref a16 :: .ref a17 :: .ref a18 :: .ref a19 :: .ref a20 :: .int 0 :: .ref a21 :: .ref a22 :: .int 0 :: .int 0 :: .ref a23 :: .ref a24 :: .ref a25 :: .ref a26 :: .ref a27 :: .int (-1) :: .ref a28 :: .ref a29 :: .ref a30 :: .ref a31 :: .ref a32 :: .ref a1 :: .ref a33 :: []), zi G a1 16 (fun _ => 0)] A t) A)) (by decide) ⟨Nat.le_of_ble_eq_true rfl, trivial⟩ ?_
  intro p e s m below meth c A ls E B hr hlocks hin hl
  have hl : lv_has ls 6 [(0, .ref a0)] := hl
  have B : zB G A s.heap [zo a0 10 (.int 0 :: .ref a2 :: .int 0 :: .ref a3 :: .int 0 :: .ref a4 :: .ref a5 :: .ref a6 :: .ref a7 :: .ref a8 :: .int 0 :: .int 0 :: .int 0 :: .int 0 :: .int 0 :: .int 0 :: .int (-1) :: .int 0 :: .ref a9 :: .int 0 :: .int 0 :: .ref a10 :: .int 0 :: .int 0 :: .ref a11 :: .int 0 :: .int 0 :: .ref a12 :: .ref a13 :: .ref a14 :: .ref a15 :: .int 0 :: .int 0 :: .ref a16 :: .ref a17 :: .ref a18 :: .ref a19 :: .ref a20 :: .int 0 :: .ref a21 :: .ref a22 :: .int 0 :: .int 0 :: .ref a23 :: .ref a24 :: .ref a25 :: .ref a26 :: .ref a27 :: .int (-1) :: .ref a28 :: .ref a29 :: .ref a30 :: .ref a31 :: .ref a32 :: .ref a1 :: .ref a33 :: []), zi G a1 16 (fun _ => 0)] s.heap [] := B
  refine lv_iconst (v := 0) E.x E.b dX12_testRows_0 (by decide) ?_
  refine lv_istore_n (lv' := [(1, .int 0), (0, .ref a0)]) E.x E.b dX12_testRows_1 rfl hl (by decide) rfl (fun ls hl => ?_)
  refine lv_iconst (v := 0) E.x E.b dX12_testRows_2 (by decide) ?_
  refine lv_istore_n (lv' := [(2, .int 0), (1, .int 0), (0, .ref a0)]) E.x E.b dX12_testRows_3 rfl hl (by decide) rfl (fun ls hl => ?_)
  refine lv_iload_n E.x E.b dX12_testRows_4 rfl (lv_at hl 0 rfl) ?_
  refine lv_aload_n E.x E.b dX12_testRows_5 rfl (lv_at hl 2 rfl) ?_
  refine z_calli E B (wc := [zo a0 10 (.int 0 :: .ref a2 :: .int 0 :: .ref a3 :: .int 0 :: .ref a4 :: .ref a5 :: .ref a6 :: .ref a7 :: .ref a8 :: .int 0 :: .int 0 :: .int 0 :: .int 0 :: .int 0 :: .int 0 :: .int (-1) :: .int 0 :: .ref a9 :: .int 0 :: .int 0 :: .ref a10 :: .int 0 :: .int 0 :: .ref a11 :: .int 0 :: .int 0 :: .ref a12 :: .ref a13 :: .ref a14 :: .ref a15 :: .int 0 :: .int 0 :: .ref a16 :: .ref a17 :: .ref a18 :: .ref a19 :: .ref a20 :: .int 0 :: .ref a21 :: .ref a22 :: .int 0 :: .int 0 :: .ref a23 :: .ref a24 :: .ref a25 :: .ref a26 :: .ref a27 :: .int (-1) :: .ref a28 :: .ref a29 :: .ref a30 :: .ref a31 :: .ref a32 :: .ref a1 :: .ref a33 :: [])]) (wr := [zi G a1 16 (fun _ => 0)]) [0] [1] rfl rfl (by decide) (by decide) (z_runV E B (As := []) (rest := [.int 0]) [0] rfl (by decide) mv_X12_rows t_1462 0 (ci := 10) rfl rfl rfl (c_X12_rows_168 l G _ a0 a2 a3 a4 a5 a6 a7 a8 a9 a10 a11 a12 a13 a14 a15 a16 a17 a18 a19 a20 a21 a22 a23 a24 a25 a26 a27 a28 a29 a30 a31 a32 a1 a33) rfl rfl ⟨Nat.le_of_ble_eq_true rfl, Nat.le_of_ble_eq_true rfl⟩ rfl hl.1 rfl (Nat.le_of_ble_eq_true rfl) dX12_testRows_6 ⟨(Nat.le_of_ble_eq_true rfl), (Nat.le_of_ble_eq_true rfl)⟩) (fun r t H locs hp hB J => ?_)
  have hq := hB
  have B := J _ hq
  have B : zB G A s.heap [zi G a1 16 (fun _ => 0), zo a0 10 (.int 0 :: .ref a2 :: .int 0 :: .ref a3 :: .int 0 :: .ref a4 :: .ref a5 :: .ref a6 :: .ref a7 :: .ref a8 :: .int 0 :: .int 0 :: .int 0 :: .int 0 :: .int 0 :: .int 0 :: .int (-1) :: .int 0 :: .ref a9 :: .int 0 :: .int 0 :: .ref a10 :: .int 0 :: .int 0 :: .ref a11 :: .int 0 :: .int 0 :: .ref a12 :: .ref a13 :: .ref a14 :: .ref a15 :: .int 0 :: .int 0 :: .ref a16 :: .ref a17 :: .ref a18 :: .ref a19 :: .ref a20 :: .int 0 :: .ref a21 :: .ref a22 :: .int 0 :: .int 0 :: .ref a23 :: .ref a24 :: .ref a25 :: .ref a26 :: .ref a27 :: .int (-1) :: .ref a28 :: .ref a29 :: .ref a30 :: .ref a31 :: .ref a32 :: .ref a1 :: .ref a33 :: [])] _ _ := B
  have hp := hp.symm
  subst hp
  refine lv_icmp_ge (tgt := 38) E.x E.b dX12_testRows_9 (by decide) (fun c => absurd c (by decide +kernel)) (fun _ => ?_)
  refine lv_aload_n E.x E.b dX12_testRows_12 rfl (lv_at hl 2 rfl) ?_
  refine z_get E B z_inX12 (ci := 10) rfl 54 (by decide) t_1246 1 rfl rfl dX12_testRows_13 ?_
  refine lv_iload_n E.x E.b dX12_testRows_16 rfl (lv_at hl 0 rfl) ?_
  refine lv_aload_n E.x E.b dX12_testRows_17 rfl (lv_at hl 2 rfl) ?_
  refine lv_iload_n E.x E.b dX12_testRows_18 rfl (lv_at hl 0 rfl) ?_
  refine z_calli E B (wc := [zo a0 10 (.int 0 :: .ref a2 :: .int 0 :: .ref a3 :: .int 0 :: .ref a4 :: .ref a5 :: .ref a6 :: .ref a7 :: .ref a8 :: .int 0 :: .int 0 :: .int 0 :: .int 0 :: .int 0 :: .int 0 :: .int (-1) :: .int 0 :: .ref a9 :: .int 0 :: .int 0 :: .ref a10 :: .int 0 :: .int 0 :: .ref a11 :: .int 0 :: .int 0 :: .ref a12 :: .ref a13 :: .ref a14 :: .ref a15 :: .int 0 :: .int 0 :: .ref a16 :: .ref a17 :: .ref a18 :: .ref a19 :: .ref a20 :: .int 0 :: .ref a21 :: .ref a22 :: .int 0 :: .int 0 :: .ref a23 :: .ref a24 :: .ref a25 :: .ref a26 :: .ref a27 :: .int (-1) :: .ref a28 :: .ref a29 :: .ref a30 :: .ref a31 :: .ref a32 :: .ref a1 :: .ref a33 :: [])]) (wr := [zi G a1 16 (fun _ => 0)]) [1] [0] rfl rfl (by decide) (by decide) (z_runV E B (As := [.int 0]) (rest := [.int 0, .ref a1]) [1] rfl (by decide) mv_X12_seenBy t_1677 0 (ci := 10) rfl rfl rfl (c_X12_seenBy_212 l G _ a0 a2 a3 a4 a5 a6 a7 a8 a9 a10 a11 a12 a13 a14 a15 a16 a17 a18 a19 a20 a21 a22 a23 a24 a25 a26 a27 a28 a29 a30 a31 a32 a1 a33) rfl rfl ⟨Nat.le_of_ble_eq_true rfl, Nat.le_of_ble_eq_true rfl⟩ rfl hl.1 rfl (Nat.le_of_ble_eq_true rfl) dX12_testRows_19 ⟨(Nat.le_of_ble_eq_true rfl), (Nat.le_of_ble_eq_true rfl)⟩) (fun r t H locs hp hB J => ?_)
  have hq := hB
  have B := J _ hq
  have B : zB G A s.heap [zi G a1 16 (fun _ => 0), zo a0 10 (.int 0 :: .ref a2 :: .int 0 :: .ref a3 :: .int 0 :: .ref a4 :: .ref a5 :: .ref a6 :: .ref a7 :: .ref a8 :: .int 0 :: .int 0 :: .int 0 :: .int 0 :: .int 0 :: .int 0 :: .int (-1) :: .int 0 :: .ref a9 :: .int 0 :: .int 0 :: .ref a10 :: .int 0 :: .int 0 :: .ref a11 :: .int 0 :: .int 0 :: .ref a12 :: .ref a13 :: .ref a14 :: .ref a15 :: .int 0 :: .int 0 :: .ref a16 :: .ref a17 :: .ref a18 :: .ref a19 :: .ref a20 :: .int 0 :: .ref a21 :: .ref a22 :: .int 0 :: .int 0 :: .ref a23 :: .ref a24 :: .ref a25 :: .ref a26 :: .ref a27 :: .int (-1) :: .ref a28 :: .ref a29 :: .ref a30 :: .ref a31 :: .ref a32 :: .ref a1 :: .ref a33 :: [])] _ _ := B
  have hp := hp.symm
  subst hp
  refine z_iast0 E B 0 rfl (show ¬ ((0 : Int32) < 0 ∨ 16 ≤ (0 : Int32).toNatClampNeg) by decide +kernel) dX12_testRows_22 (fun H locs B => ?_)
  have B : zB G A s.heap [zi G a1 16 (fun _ => 0), zo a0 10 (.int 0 :: .ref a2 :: .int 0 :: .ref a3 :: .int 0 :: .ref a4 :: .ref a5 :: .ref a6 :: .ref a7 :: .ref a8 :: .int 0 :: .int 0 :: .int 0 :: .int 0 :: .int 0 :: .int 0 :: .int (-1) :: .int 0 :: .ref a9 :: .int 0 :: .int 0 :: .ref a10 :: .int 0 :: .int 0 :: .ref a11 :: .int 0 :: .int 0 :: .ref a12 :: .ref a13 :: .ref a14 :: .ref a15 :: .int 0 :: .int 0 :: .ref a16 :: .ref a17 :: .ref a18 :: .ref a19 :: .ref a20 :: .int 0 :: .ref a21 :: .ref a22 :: .int 0 :: .int 0 :: .ref a23 :: .ref a24 :: .ref a25 :: .ref a26 :: .ref a27 :: .int (-1) :: .ref a28 :: .ref a29 :: .ref a30 :: .ref a31 :: .ref a32 :: .ref a1 :: .ref a33 :: [])] _ _ := B
  refine lv_iload_n E.x E.b dX12_testRows_23 rfl (lv_at hl 1 rfl) ?_
  refine lv_aload_n E.x E.b dX12_testRows_24 rfl (lv_at hl 2 rfl) ?_
  refine z_get E B z_inX12 (ci := 10) rfl 54 (by decide) t_1246 1 rfl rfl dX12_testRows_25 ?_
  refine lv_iload_n E.x E.b dX12_testRows_28 rfl (lv_at hl 0 rfl) ?_
  refine z_iald E B 0 rfl (show ¬ ((0 : Int32) < 0 ∨ 16 ≤ (0 : Int32).toNatClampNeg) by decide +kernel) dX12_testRows_29 (z_topi 0 rfl ?_)
  refine lv_ior E.x E.b dX12_testRows_30 (z_topi 0 (by decide +kernel) ?_)
  refine lv_istore_n (lv' := [(1, .int 0), (2, .int 0), (0, .ref a0)]) E.x E.b dX12_testRows_31 rfl hl (by decide) rfl (fun ls hl => ?_)
  refine lv_iinc (v := 1) (lv' := [(2, .int 1), (1, .int 0), (0, .ref a0)]) E.x E.b dX12_testRows_32 hl (k := 1) rfl (by decide +kernel) (by decide) rfl (fun ls hl => ?_)
  refine lv_goto (tgt := 4) E.x E.b dX12_testRows_35 (by decide) ?_
  refine lv_iload_n E.x E.b dX12_testRows_4 rfl (lv_at hl 0 rfl) ?_
  refine lv_aload_n E.x E.b dX12_testRows_5 rfl (lv_at hl 2 rfl) ?_
  refine z_calli E B (wc := [zo a0 10 (.int 0 :: .ref a2 :: .int 0 :: .ref a3 :: .int 0 :: .ref a4 :: .ref a5 :: .ref a6 :: .ref a7 :: .ref a8 :: .int 0 :: .int 0 :: .int 0 :: .int 0 :: .int 0 :: .int 0 :: .int (-1) :: .int 0 :: .ref a9 :: .int 0 :: .int 0 :: .ref a10 :: .int 0 :: .int 0 :: .ref a11 :: .int 0 :: .int 0 :: .ref a12 :: .ref a13 :: .ref a14 :: .ref a15 :: .int 0 :: .int 0 :: .ref a16 :: .ref a17 :: .ref a18 :: .ref a19 :: .ref a20 :: .int 0 :: .ref a21 :: .ref a22 :: .int 0 :: .int 0 :: .ref a23 :: .ref a24 :: .ref a25 :: .ref a26 :: .ref a27 :: .int (-1) :: .ref a28 :: .ref a29 :: .ref a30 :: .ref a31 :: .ref a32 :: .ref a1 :: .ref a33 :: [])]) (wr := [zi G a1 16 (fun _ => 0)]) [1] [0] rfl rfl (by decide) (by decide) (z_runV E B (As := []) (rest := [.int 1]) [1] rfl (by decide) mv_X12_rows t_1462 0 (ci := 10) rfl rfl rfl (c_X12_rows_168 l G _ a0 a2 a3 a4 a5 a6 a7 a8 a9 a10 a11 a12 a13 a14 a15 a16 a17 a18 a19 a20 a21 a22 a23 a24 a25 a26 a27 a28 a29 a30 a31 a32 a1 a33) rfl rfl ⟨Nat.le_of_ble_eq_true rfl, Nat.le_of_ble_eq_true rfl⟩ rfl hl.1 rfl (Nat.le_of_ble_eq_true rfl) dX12_testRows_6 ⟨(Nat.le_of_ble_eq_true rfl), (Nat.le_of_ble_eq_true rfl)⟩) (fun r t H locs hp hB J => ?_)
  have hq := hB
  have B := J _ hq
  have B : zB G A s.heap [zi G a1 16 (fun _ => 0), zo a0 10 (.int 0 :: .ref a2 :: .int 0 :: .ref a3 :: .int 0 :: .ref a4 :: .ref a5 :: .ref a6 :: .ref a7 :: .ref a8 :: .int 0 :: .int 0 :: .int 0 :: .int 0 :: .int 0 :: .int 0 :: .int (-1) :: .int 0 :: .ref a9 :: .int 0 :: .int 0 :: .ref a10 :: .int 0 :: .int 0 :: .ref a11 :: .int 0 :: .int 0 :: .ref a12 :: .ref a13 :: .ref a14 :: .ref a15 :: .int 0 :: .int 0 :: .ref a16 :: .ref a17 :: .ref a18 :: .ref a19 :: .ref a20 :: .int 0 :: .ref a21 :: .ref a22 :: .int 0 :: .int 0 :: .ref a23 :: .ref a24 :: .ref a25 :: .ref a26 :: .ref a27 :: .int (-1) :: .ref a28 :: .ref a29 :: .ref a30 :: .ref a31 :: .ref a32 :: .ref a1 :: .ref a33 :: [])] _ _ := B
  have hp := hp.symm
  subst hp
  refine lv_icmp_ge (tgt := 38) E.x E.b dX12_testRows_9 (by decide) (fun _ => ?_) (fun c => absurd (by decide +kernel) c)
  refine lv_iconst (v := (-1)) E.x E.b dX12_testRows_38 (by decide) ?_
  refine lv_istore_n (lv' := [(2, .int (-1)), (1, .int 0), (0, .ref a0)]) E.x E.b dX12_testRows_39 rfl hl (by decide) rfl (fun ls hl => ?_)
  refine lv_iconst (v := 0) E.x E.b dX12_testRows_40 (by decide) ?_
  refine lv_istore_n (lv' := [(3, .int 0), (2, .int (-1)), (1, .int 0), (0, .ref a0)]) E.x E.b dX12_testRows_41 rfl hl (by decide) rfl (fun ls hl => ?_)
  refine lv_iload_n E.x E.b dX12_testRows_42 rfl (lv_at hl 0 rfl) ?_
  refine lv_iconst (v := 1) E.x E.b dX12_testRows_43 (by decide) ?_
  refine lv_aload_n E.x E.b dX12_testRows_44 rfl (lv_at hl 3 rfl) ?_
  refine z_calli E B (wc := [zo a0 10 (.int 0 :: .ref a2 :: .int 0 :: .ref a3 :: .int 0 :: .ref a4 :: .ref a5 :: .ref a6 :: .ref a7 :: .ref a8 :: .int 0 :: .int 0 :: .int 0 :: .int 0 :: .int 0 :: .int 0 :: .int (-1) :: .int 0 :: .ref a9 :: .int 0 :: .int 0 :: .ref a10 :: .int 0 :: .int 0 :: .ref a11 :: .int 0 :: .int 0 :: .ref a12 :: .ref a13 :: .ref a14 :: .ref a15 :: .int 0 :: .int 0 :: .ref a16 :: .ref a17 :: .ref a18 :: .ref a19 :: .ref a20 :: .int 0 :: .ref a21 :: .ref a22 :: .int 0 :: .int 0 :: .ref a23 :: .ref a24 :: .ref a25 :: .ref a26 :: .ref a27 :: .int (-1) :: .ref a28 :: .ref a29 :: .ref a30 :: .ref a31 :: .ref a32 :: .ref a1 :: .ref a33 :: [])]) (wr := [zi G a1 16 (fun _ => 0)]) [1] [0] rfl rfl (by decide) (by decide) (z_runV E B (As := []) (rest := [.int 1, .int 0]) [1] rfl (by decide) mv_X12_rows t_1462 0 (ci := 10) rfl rfl rfl (c_X12_rows_168 l G _ a0 a2 a3 a4 a5 a6 a7 a8 a9 a10 a11 a12 a13 a14 a15 a16 a17 a18 a19 a20 a21 a22 a23 a24 a25 a26 a27 a28 a29 a30 a31 a32 a1 a33) rfl rfl ⟨Nat.le_of_ble_eq_true rfl, Nat.le_of_ble_eq_true rfl⟩ rfl hl.1 rfl (Nat.le_of_ble_eq_true rfl) dX12_testRows_45 ⟨(Nat.le_of_ble_eq_true rfl), (Nat.le_of_ble_eq_true rfl)⟩) (fun r t H locs hp hB J => ?_)
  have hq := hB
  have B := J _ hq
  have B : zB G A s.heap [zi G a1 16 (fun _ => 0), zo a0 10 (.int 0 :: .ref a2 :: .int 0 :: .ref a3 :: .int 0 :: .ref a4 :: .ref a5 :: .ref a6 :: .ref a7 :: .ref a8 :: .int 0 :: .int 0 :: .int 0 :: .int 0 :: .int 0 :: .int 0 :: .int (-1) :: .int 0 :: .ref a9 :: .int 0 :: .int 0 :: .ref a10 :: .int 0 :: .int 0 :: .ref a11 :: .int 0 :: .int 0 :: .ref a12 :: .ref a13 :: .ref a14 :: .ref a15 :: .int 0 :: .int 0 :: .ref a16 :: .ref a17 :: .ref a18 :: .ref a19 :: .ref a20 :: .int 0 :: .ref a21 :: .ref a22 :: .int 0 :: .int 0 :: .ref a23 :: .ref a24 :: .ref a25 :: .ref a26 :: .ref a27 :: .int (-1) :: .ref a28 :: .ref a29 :: .ref a30 :: .ref a31 :: .ref a32 :: .ref a1 :: .ref a33 :: [])] _ _ := B
  have hp := hp.symm
  subst hp
  refine lv_ishl E.x E.b dX12_testRows_48 (z_topi 2 (by decide +kernel) ?_)
  refine lv_icmp_ge (tgt := 123) E.x E.b dX12_testRows_49 (by decide) (fun c => absurd c (by decide +kernel)) (fun _ => ?_)
  refine lv_iload_n E.x E.b dX12_testRows_52 rfl (lv_at hl 1 rfl) ?_
  refine lv_if_lt (tgt := 67) E.x E.b dX12_testRows_53 (by decide) (fun _ => ?_) (fun c => absurd (by decide +kernel) c)
  refine lv_iconst (v := 0) E.x E.b dX12_testRows_67 (by decide) ?_
  refine lv_istore (lv' := [(4, .int 0), (3, .int 0), (2, .int (-1)), (1, .int 0), (0, .ref a0)]) E.x E.b dX12_testRows_68 hl (by decide) rfl (fun ls hl => ?_)
  refine lv_iconst (v := 0) E.x E.b dX12_testRows_70 (by decide) ?_
  refine lv_istore (lv' := [(5, .int 0), (4, .int 0), (3, .int 0), (2, .int (-1)), (1, .int 0), (0, .ref a0)]) E.x E.b dX12_testRows_71 hl (by decide) rfl (fun ls hl => ?_)
  refine lv_iload E.x E.b dX12_testRows_73 (lv_at hl 0 rfl) ?_
  refine lv_aload_n E.x E.b dX12_testRows_75 rfl (lv_at hl 5 rfl) ?_
  refine z_calli E B (wc := [zo a0 10 (.int 0 :: .ref a2 :: .int 0 :: .ref a3 :: .int 0 :: .ref a4 :: .ref a5 :: .ref a6 :: .ref a7 :: .ref a8 :: .int 0 :: .int 0 :: .int 0 :: .int 0 :: .int 0 :: .int 0 :: .int (-1) :: .int 0 :: .ref a9 :: .int 0 :: .int 0 :: .ref a10 :: .int 0 :: .int 0 :: .ref a11 :: .int 0 :: .int 0 :: .ref a12 :: .ref a13 :: .ref a14 :: .ref a15 :: .int 0 :: .int 0 :: .ref a16 :: .ref a17 :: .ref a18 :: .ref a19 :: .ref a20 :: .int 0 :: .ref a21 :: .ref a22 :: .int 0 :: .int 0 :: .ref a23 :: .ref a24 :: .ref a25 :: .ref a26 :: .ref a27 :: .int (-1) :: .ref a28 :: .ref a29 :: .ref a30 :: .ref a31 :: .ref a32 :: .ref a1 :: .ref a33 :: [])]) (wr := [zi G a1 16 (fun _ => 0)]) [1] [0] rfl rfl (by decide) (by decide) (z_runV E B (As := []) (rest := [.int 0]) [1] rfl (by decide) mv_X12_rows t_1462 0 (ci := 10) rfl rfl rfl (c_X12_rows_168 l G _ a0 a2 a3 a4 a5 a6 a7 a8 a9 a10 a11 a12 a13 a14 a15 a16 a17 a18 a19 a20 a21 a22 a23 a24 a25 a26 a27 a28 a29 a30 a31 a32 a1 a33) rfl rfl ⟨Nat.le_of_ble_eq_true rfl, Nat.le_of_ble_eq_true rfl⟩ rfl hl.1 rfl (Nat.le_of_ble_eq_true rfl) dX12_testRows_76 ⟨(Nat.le_of_ble_eq_true rfl), (Nat.le_of_ble_eq_true rfl)⟩) (fun r t H locs hp hB J => ?_)
  have hq := hB
  have B := J _ hq
  have B : zB G A s.heap [zi G a1 16 (fun _ => 0), zo a0 10 (.int 0 :: .ref a2 :: .int 0 :: .ref a3 :: .int 0 :: .ref a4 :: .ref a5 :: .ref a6 :: .ref a7 :: .ref a8 :: .int 0 :: .int 0 :: .int 0 :: .int 0 :: .int 0 :: .int 0 :: .int (-1) :: .int 0 :: .ref a9 :: .int 0 :: .int 0 :: .ref a10 :: .int 0 :: .int 0 :: .ref a11 :: .int 0 :: .int 0 :: .ref a12 :: .ref a13 :: .ref a14 :: .ref a15 :: .int 0 :: .int 0 :: .ref a16 :: .ref a17 :: .ref a18 :: .ref a19 :: .ref a20 :: .int 0 :: .ref a21 :: .ref a22 :: .int 0 :: .int 0 :: .ref a23 :: .ref a24 :: .ref a25 :: .ref a26 :: .ref a27 :: .int (-1) :: .ref a28 :: .ref a29 :: .ref a30 :: .ref a31 :: .ref a32 :: .ref a1 :: .ref a33 :: [])] _ _ := B
  have hp := hp.symm
  subst hp
  refine lv_icmp_ge (tgt := 109) E.x E.b dX12_testRows_79 (by decide) (fun c => absurd c (by decide +kernel)) (fun _ => ?_)
  refine lv_iload_n E.x E.b dX12_testRows_82 rfl (lv_at hl 2 rfl) ?_
  refine lv_iload E.x E.b dX12_testRows_83 (lv_at hl 0 rfl) ?_
  refine z_calli E B (wc := []) (wr := [zi G a1 16 (fun _ => 0), zo a0 10 (.int 0 :: .ref a2 :: .int 0 :: .ref a3 :: .int 0 :: .ref a4 :: .ref a5 :: .ref a6 :: .ref a7 :: .ref a8 :: .int 0 :: .int 0 :: .int 0 :: .int 0 :: .int 0 :: .int 0 :: .int (-1) :: .int 0 :: .ref a9 :: .int 0 :: .int 0 :: .ref a10 :: .int 0 :: .int 0 :: .ref a11 :: .int 0 :: .int 0 :: .ref a12 :: .ref a13 :: .ref a14 :: .ref a15 :: .int 0 :: .int 0 :: .ref a16 :: .ref a17 :: .ref a18 :: .ref a19 :: .ref a20 :: .int 0 :: .ref a21 :: .ref a22 :: .int 0 :: .int 0 :: .ref a23 :: .ref a24 :: .ref a25 :: .ref a26 :: .ref a27 :: .int (-1) :: .ref a28 :: .ref a29 :: .ref a30 :: .ref a31 :: .ref a32 :: .ref a1 :: .ref a33 :: [])]) [] [0, 1] rfl rfl (by decide) (by decide) (z_runS E B (As := [.int 0, .int 0]) (rest := []) [] rfl (by decide) ms_X12_has t_1466 (c_X12_has_213 l G _) rfl rfl ⟨Nat.le_of_ble_eq_true rfl, Nat.le_of_ble_eq_true rfl⟩ rfl hl.1 rfl (Nat.le_of_ble_eq_true rfl) dX12_testRows_85 ⟨(Nat.le_of_ble_eq_true rfl), (Nat.le_of_ble_eq_true rfl)⟩) (fun r t H locs hp hB J => ?_)
  have hq := hB
  have B := J _ hq
  have B : zB G A s.heap [zi G a1 16 (fun _ => 0), zo a0 10 (.int 0 :: .ref a2 :: .int 0 :: .ref a3 :: .int 0 :: .ref a4 :: .ref a5 :: .ref a6 :: .ref a7 :: .ref a8 :: .int 0 :: .int 0 :: .int 0 :: .int 0 :: .int 0 :: .int 0 :: .int (-1) :: .int 0 :: .ref a9 :: .int 0 :: .int 0 :: .ref a10 :: .int 0 :: .int 0 :: .ref a11 :: .int 0 :: .int 0 :: .ref a12 :: .ref a13 :: .ref a14 :: .ref a15 :: .int 0 :: .int 0 :: .ref a16 :: .ref a17 :: .ref a18 :: .ref a19 :: .ref a20 :: .int 0 :: .ref a21 :: .ref a22 :: .int 0 :: .int 0 :: .ref a23 :: .ref a24 :: .ref a25 :: .ref a26 :: .ref a27 :: .int (-1) :: .ref a28 :: .ref a29 :: .ref a30 :: .ref a31 :: .ref a32 :: .ref a1 :: .ref a33 :: [])] _ _ := B
  have hp := hp.symm
  subst hp
  refine lv_if_eq (tgt := 103) E.x E.b dX12_testRows_88 (by decide) (fun _ => ?_) (fun c => absurd (by decide +kernel) c)
  refine lv_iinc (v := 1) (lv' := [(5, .int 1), (4, .int 0), (3, .int 0), (2, .int (-1)), (1, .int 0), (0, .ref a0)]) E.x E.b dX12_testRows_103 hl (k := 0) rfl (by decide +kernel) (by decide) rfl (fun ls hl => ?_)
  refine lv_goto (tgt := 73) E.x E.b dX12_testRows_106 (by decide) ?_
  refine lv_iload E.x E.b dX12_testRows_73 (lv_at hl 0 rfl) ?_
  refine lv_aload_n E.x E.b dX12_testRows_75 rfl (lv_at hl 5 rfl) ?_
  refine z_calli E B (wc := [zo a0 10 (.int 0 :: .ref a2 :: .int 0 :: .ref a3 :: .int 0 :: .ref a4 :: .ref a5 :: .ref a6 :: .ref a7 :: .ref a8 :: .int 0 :: .int 0 :: .int 0 :: .int 0 :: .int 0 :: .int 0 :: .int (-1) :: .int 0 :: .ref a9 :: .int 0 :: .int 0 :: .ref a10 :: .int 0 :: .int 0 :: .ref a11 :: .int 0 :: .int 0 :: .ref a12 :: .ref a13 :: .ref a14 :: .ref a15 :: .int 0 :: .int 0 :: .ref a16 :: .ref a17 :: .ref a18 :: .ref a19 :: .ref a20 :: .int 0 :: .ref a21 :: .ref a22 :: .int 0 :: .int 0 :: .ref a23 :: .ref a24 :: .ref a25 :: .ref a26 :: .ref a27 :: .int (-1) :: .ref a28 :: .ref a29 :: .ref a30 :: .ref a31 :: .ref a32 :: .ref a1 :: .ref a33 :: [])]) (wr := [zi G a1 16 (fun _ => 0)]) [1] [0] rfl rfl (by decide) (by decide) (z_runV E B (As := []) (rest := [.int 1]) [1] rfl (by decide) mv_X12_rows t_1462 0 (ci := 10) rfl rfl rfl (c_X12_rows_168 l G _ a0 a2 a3 a4 a5 a6 a7 a8 a9 a10 a11 a12 a13 a14 a15 a16 a17 a18 a19 a20 a21 a22 a23 a24 a25 a26 a27 a28 a29 a30 a31 a32 a1 a33) rfl rfl ⟨Nat.le_of_ble_eq_true rfl, Nat.le_of_ble_eq_true rfl⟩ rfl hl.1 rfl (Nat.le_of_ble_eq_true rfl) dX12_testRows_76 ⟨(Nat.le_of_ble_eq_true rfl), (Nat.le_of_ble_eq_true rfl)⟩) (fun r t H locs hp hB J => ?_)
  have hq := hB
  have B := J _ hq
  have B : zB G A s.heap [zi G a1 16 (fun _ => 0), zo a0 10 (.int 0 :: .ref a2 :: .int 0 :: .ref a3 :: .int 0 :: .ref a4 :: .ref a5 :: .ref a6 :: .ref a7 :: .ref a8 :: .int 0 :: .int 0 :: .int 0 :: .int 0 :: .int 0 :: .int 0 :: .int (-1) :: .int 0 :: .ref a9 :: .int 0 :: .int 0 :: .ref a10 :: .int 0 :: .int 0 :: .ref a11 :: .int 0 :: .int 0 :: .ref a12 :: .ref a13 :: .ref a14 :: .ref a15 :: .int 0 :: .int 0 :: .ref a16 :: .ref a17 :: .ref a18 :: .ref a19 :: .ref a20 :: .int 0 :: .ref a21 :: .ref a22 :: .int 0 :: .int 0 :: .ref a23 :: .ref a24 :: .ref a25 :: .ref a26 :: .ref a27 :: .int (-1) :: .ref a28 :: .ref a29 :: .ref a30 :: .ref a31 :: .ref a32 :: .ref a1 :: .ref a33 :: [])] _ _ := B
  have hp := hp.symm
  subst hp
  refine lv_icmp_ge (tgt := 109) E.x E.b dX12_testRows_79 (by decide) (fun _ => ?_) (fun c => absurd (by decide +kernel) c)
  refine lv_iload E.x E.b dX12_testRows_109 (lv_at hl 1 rfl) ?_
  refine lv_iload_n E.x E.b dX12_testRows_111 rfl (lv_at hl 4 rfl) ?_
  refine lv_icmp_ne (tgt := 117) E.x E.b dX12_testRows_112 (by decide) (fun c => absurd (by decide +kernel) c) (fun _ => ?_)
  refine lv_iload_n E.x E.b dX12_testRows_115 rfl (lv_at hl 2 rfl) ?_
  refine lv_istore_n (lv' := [(2, .int 0), (5, .int 1), (4, .int 0), (3, .int 0), (1, .int 0), (0, .ref a0)]) E.x E.b dX12_testRows_116 rfl hl (by decide) rfl (fun ls hl => ?_)
  refine lv_iinc (v := 1) (lv' := [(3, .int 1), (2, .int 0), (5, .int 1), (4, .int 0), (1, .int 0), (0, .ref a0)]) E.x E.b dX12_testRows_117 hl (k := 3) rfl (by decide +kernel) (by decide) rfl (fun ls hl => ?_)
  refine lv_goto (tgt := 42) E.x E.b dX12_testRows_120 (by decide) ?_
  refine lv_iload_n E.x E.b dX12_testRows_42 rfl (lv_at hl 0 rfl) ?_
  refine lv_iconst (v := 1) E.x E.b dX12_testRows_43 (by decide) ?_
  refine lv_aload_n E.x E.b dX12_testRows_44 rfl (lv_at hl 5 rfl) ?_
  refine z_calli E B (wc := [zo a0 10 (.int 0 :: .ref a2 :: .int 0 :: .ref a3 :: .int 0 :: .ref a4 :: .ref a5 :: .ref a6 :: .ref a7 :: .ref a8 :: .int 0 :: .int 0 :: .int 0 :: .int 0 :: .int 0 :: .int 0 :: .int (-1) :: .int 0 :: .ref a9 :: .int 0 :: .int 0 :: .ref a10 :: .int 0 :: .int 0 :: .ref a11 :: .int 0 :: .int 0 :: .ref a12 :: .ref a13 :: .ref a14 :: .ref a15 :: .int 0 :: .int 0 :: .ref a16 :: .ref a17 :: .ref a18 :: .ref a19 :: .ref a20 :: .int 0 :: .ref a21 :: .ref a22 :: .int 0 :: .int 0 :: .ref a23 :: .ref a24 :: .ref a25 :: .ref a26 :: .ref a27 :: .int (-1) :: .ref a28 :: .ref a29 :: .ref a30 :: .ref a31 :: .ref a32 :: .ref a1 :: .ref a33 :: [])]) (wr := [zi G a1 16 (fun _ => 0)]) [1] [0] rfl rfl (by decide) (by decide) (z_runV E B (As := []) (rest := [.int 1, .int 1]) [1] rfl (by decide) mv_X12_rows t_1462 0 (ci := 10) rfl rfl rfl (c_X12_rows_168 l G _ a0 a2 a3 a4 a5 a6 a7 a8 a9 a10 a11 a12 a13 a14 a15 a16 a17 a18 a19 a20 a21 a22 a23 a24 a25 a26 a27 a28 a29 a30 a31 a32 a1 a33) rfl rfl ⟨Nat.le_of_ble_eq_true rfl, Nat.le_of_ble_eq_true rfl⟩ rfl hl.1 rfl (Nat.le_of_ble_eq_true rfl) dX12_testRows_45 ⟨(Nat.le_of_ble_eq_true rfl), (Nat.le_of_ble_eq_true rfl)⟩) (fun r t H locs hp hB J => ?_)
  have hq := hB
  have B := J _ hq
  have B : zB G A s.heap [zi G a1 16 (fun _ => 0), zo a0 10 (.int 0 :: .ref a2 :: .int 0 :: .ref a3 :: .int 0 :: .ref a4 :: .ref a5 :: .ref a6 :: .ref a7 :: .ref a8 :: .int 0 :: .int 0 :: .int 0 :: .int 0 :: .int 0 :: .int 0 :: .int (-1) :: .int 0 :: .ref a9 :: .int 0 :: .int 0 :: .ref a10 :: .int 0 :: .int 0 :: .ref a11 :: .int 0 :: .int 0 :: .ref a12 :: .ref a13 :: .ref a14 :: .ref a15 :: .int 0 :: .int 0 :: .ref a16 :: .ref a17 :: .ref a18 :: .ref a19 :: .ref a20 :: .int 0 :: .ref a21 :: .ref a22 :: .int 0 :: .int 0 :: .ref a23 :: .ref a24 :: .ref a25 :: .ref a26 :: .ref a27 :: .int (-1) :: .ref a28 :: .ref a29 :: .ref a30 :: .ref a31 :: .ref a32 :: .ref a1 :: .ref a33 :: [])] _ _ := B
  have hp := hp.symm
  subst hp
  refine lv_ishl E.x E.b dX12_testRows_48 (z_topi 2 (by decide +kernel) ?_)
  refine lv_icmp_ge (tgt := 123) E.x E.b dX12_testRows_49 (by decide) (fun c => absurd c (by decide +kernel)) (fun _ => ?_)
  refine lv_iload_n E.x E.b dX12_testRows_52 rfl (lv_at hl 1 rfl) ?_
  refine lv_if_lt (tgt := 67) E.x E.b dX12_testRows_53 (by decide) (fun c => absurd c (by decide +kernel)) (fun _ => ?_)
  refine lv_iload_n E.x E.b dX12_testRows_56 rfl (lv_at hl 0 rfl) ?_
  refine lv_iload_n E.x E.b dX12_testRows_57 rfl (lv_at hl 1 rfl) ?_
  refine z_calli E B (wc := []) (wr := [zi G a1 16 (fun _ => 0), zo a0 10 (.int 0 :: .ref a2 :: .int 0 :: .ref a3 :: .int 0 :: .ref a4 :: .ref a5 :: .ref a6 :: .ref a7 :: .ref a8 :: .int 0 :: .int 0 :: .int 0 :: .int 0 :: .int 0 :: .int 0 :: .int (-1) :: .int 0 :: .ref a9 :: .int 0 :: .int 0 :: .ref a10 :: .int 0 :: .int 0 :: .ref a11 :: .int 0 :: .int 0 :: .ref a12 :: .ref a13 :: .ref a14 :: .ref a15 :: .int 0 :: .int 0 :: .ref a16 :: .ref a17 :: .ref a18 :: .ref a19 :: .ref a20 :: .int 0 :: .ref a21 :: .ref a22 :: .int 0 :: .int 0 :: .ref a23 :: .ref a24 :: .ref a25 :: .ref a26 :: .ref a27 :: .int (-1) :: .ref a28 :: .ref a29 :: .ref a30 :: .ref a31 :: .ref a32 :: .ref a1 :: .ref a33 :: [])]) [] [0, 1] rfl rfl (by decide) (by decide) (z_runS E B (As := [.int 1, .int 0]) (rest := []) [] rfl (by decide) ms_X12_isFirst t_1681 (c_X12_isFirst_215 l G _) rfl rfl ⟨Nat.le_of_ble_eq_true rfl, Nat.le_of_ble_eq_true rfl⟩ rfl hl.1 rfl (Nat.le_of_ble_eq_true rfl) dX12_testRows_58 ⟨(Nat.le_of_ble_eq_true rfl), (Nat.le_of_ble_eq_true rfl)⟩) (fun r t H locs hp hB J => ?_)
  have hq := hB
  have B := J _ hq
  have B : zB G A s.heap [zi G a1 16 (fun _ => 0), zo a0 10 (.int 0 :: .ref a2 :: .int 0 :: .ref a3 :: .int 0 :: .ref a4 :: .ref a5 :: .ref a6 :: .ref a7 :: .ref a8 :: .int 0 :: .int 0 :: .int 0 :: .int 0 :: .int 0 :: .int 0 :: .int (-1) :: .int 0 :: .ref a9 :: .int 0 :: .int 0 :: .ref a10 :: .int 0 :: .int 0 :: .ref a11 :: .int 0 :: .int 0 :: .ref a12 :: .ref a13 :: .ref a14 :: .ref a15 :: .int 0 :: .int 0 :: .ref a16 :: .ref a17 :: .ref a18 :: .ref a19 :: .ref a20 :: .int 0 :: .ref a21 :: .ref a22 :: .int 0 :: .int 0 :: .ref a23 :: .ref a24 :: .ref a25 :: .ref a26 :: .ref a27 :: .int (-1) :: .ref a28 :: .ref a29 :: .ref a30 :: .ref a31 :: .ref a32 :: .ref a1 :: .ref a33 :: [])] _ _ := B
  have hp := hp.symm
  subst hp
  refine lv_if_ne (tgt := 67) E.x E.b dX12_testRows_61 (by decide) (fun c => absurd (by decide +kernel) c) (fun _ => ?_)
  refine lv_goto (tgt := 117) E.x E.b dX12_testRows_64 (by decide) ?_
  refine lv_iinc (v := 2) (lv' := [(3, .int 2), (2, .int 0), (5, .int 1), (4, .int 0), (1, .int 0), (0, .ref a0)]) E.x E.b dX12_testRows_117 hl (k := 0) rfl (by decide +kernel) (by decide) rfl (fun ls hl => ?_)
  refine lv_goto (tgt := 42) E.x E.b dX12_testRows_120 (by decide) ?_
  refine lv_iload_n E.x E.b dX12_testRows_42 rfl (lv_at hl 0 rfl) ?_
  refine lv_iconst (v := 1) E.x E.b dX12_testRows_43 (by decide) ?_
  refine lv_aload_n E.x E.b dX12_testRows_44 rfl (lv_at hl 5 rfl) ?_
  refine z_calli E B (wc := [zo a0 10 (.int 0 :: .ref a2 :: .int 0 :: .ref a3 :: .int 0 :: .ref a4 :: .ref a5 :: .ref a6 :: .ref a7 :: .ref a8 :: .int 0 :: .int 0 :: .int 0 :: .int 0 :: .int 0 :: .int 0 :: .int (-1) :: .int 0 :: .ref a9 :: .int 0 :: .int 0 :: .ref a10 :: .int 0 :: .int 0 :: .ref a11 :: .int 0 :: .int 0 :: .ref a12 :: .ref a13 :: .ref a14 :: .ref a15 :: .int 0 :: .int 0 :: .ref a16 :: .ref a17 :: .ref a18 :: .ref a19 :: .ref a20 :: .int 0 :: .ref a21 :: .ref a22 :: .int 0 :: .int 0 :: .ref a23 :: .ref a24 :: .ref a25 :: .ref a26 :: .ref a27 :: .int (-1) :: .ref a28 :: .ref a29 :: .ref a30 :: .ref a31 :: .ref a32 :: .ref a1 :: .ref a33 :: [])]) (wr := [zi G a1 16 (fun _ => 0)]) [1] [0] rfl rfl (by decide) (by decide) (z_runV E B (As := []) (rest := [.int 1, .int 2]) [1] rfl (by decide) mv_X12_rows t_1462 0 (ci := 10) rfl rfl rfl (c_X12_rows_168 l G _ a0 a2 a3 a4 a5 a6 a7 a8 a9 a10 a11 a12 a13 a14 a15 a16 a17 a18 a19 a20 a21 a22 a23 a24 a25 a26 a27 a28 a29 a30 a31 a32 a1 a33) rfl rfl ⟨Nat.le_of_ble_eq_true rfl, Nat.le_of_ble_eq_true rfl⟩ rfl hl.1 rfl (Nat.le_of_ble_eq_true rfl) dX12_testRows_45 ⟨(Nat.le_of_ble_eq_true rfl), (Nat.le_of_ble_eq_true rfl)⟩) (fun r t H locs hp hB J => ?_)
  have hq := hB
  have B := J _ hq
  have B : zB G A s.heap [zi G a1 16 (fun _ => 0), zo a0 10 (.int 0 :: .ref a2 :: .int 0 :: .ref a3 :: .int 0 :: .ref a4 :: .ref a5 :: .ref a6 :: .ref a7 :: .ref a8 :: .int 0 :: .int 0 :: .int 0 :: .int 0 :: .int 0 :: .int 0 :: .int (-1) :: .int 0 :: .ref a9 :: .int 0 :: .int 0 :: .ref a10 :: .int 0 :: .int 0 :: .ref a11 :: .int 0 :: .int 0 :: .ref a12 :: .ref a13 :: .ref a14 :: .ref a15 :: .int 0 :: .int 0 :: .ref a16 :: .ref a17 :: .ref a18 :: .ref a19 :: .ref a20 :: .int 0 :: .ref a21 :: .ref a22 :: .int 0 :: .int 0 :: .ref a23 :: .ref a24 :: .ref a25 :: .ref a26 :: .ref a27 :: .int (-1) :: .ref a28 :: .ref a29 :: .ref a30 :: .ref a31 :: .ref a32 :: .ref a1 :: .ref a33 :: [])] _ _ := B
  have hp := hp.symm
  subst hp
  refine lv_ishl E.x E.b dX12_testRows_48 (z_topi 2 (by decide +kernel) ?_)
  refine lv_icmp_ge (tgt := 123) E.x E.b dX12_testRows_49 (by decide) (fun _ => ?_) (fun c => absurd (by decide +kernel) c)
  refine lv_iload_n E.x E.b dX12_testRows_123 rfl (lv_at hl 1 rfl) ?_
  refine W.widen (k := 0) (n := 0) (Nat.le_of_ble_eq_true rfl) (Nat.le_of_ble_eq_true rfl) ?_
  exact z_iret E hr hlocks B (v := 0) rfl (fun t ht => z_q B [1, 0] (by decide) rfl ht) dX12_testRows_124
