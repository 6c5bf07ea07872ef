set_option maxHeartbeats 4000000 in
set_option maxRecDepth 100000 in
theorem c_X12_test_217 (l : Launch) (G : zGT) (sz : Nat) (a0 a1 a2 a3 a4 a5 a6 a7 a8 a9 a10 a11 a12 a13 a14 a15 a16 a17 a18 a19 a20 a21 a22 a23 a24 a25 a26 a27 a28 a29 a30 a31 a32 a33 : Nat) (p0 : Int32) : Met l yX12_test (.code yX12_test cX12_test 5 (some .int) :: zT) ({ frames := 3, cells := 0, slots := 0, locals := 133 }) (va_Pc [.ref a0, .int p0] (zPc G [zo a0 10 (.int 0 :: .ref a2 :: .int 0 :: .ref a3 :: .int 0 :: .ref a4 :: .ref a5 :: .ref a6 :: .ref a7 :: .ref a8 :: .int 0 :: .int 0 :: .int 0 :: .int 0 :: .int 0 :: .int 0 :: .int (-1) :: .int 0 :: .ref a9 :: .int 0 :: .int 0 :: .ref a10 :: .int 0 :: .int 0 :: .ref a11 :: .int 0 :: .int 0 :: .ref a12 :: .ref a13 :: .ref a14 :: .ref a15 :: .int 0 :: .int 0 :: .ref a16 :: .ref a17 :: .ref a18 :: .ref a19 :: .ref a20 :: .int 0 :: .ref a21 :: .ref a22 :: .int 0 :: .int 0 :: .ref a23 :: .ref a24 :: .ref a25 :: .ref a26 :: .ref a27 :: .int (-1) :: .ref a28 :: .ref a29 :: .ref a30 :: .ref a31 :: .ref a32 :: .ref a1 :: .ref a33 :: []), zi G a1 16 (fun _ => 0)] sz)) ((fun A => va_Qi (fun (r : Int32) (_ : Unit) => (0 ≤ p0.toInt ∧ r = (-1)) ∨ (p0.toInt = (-1) ∧ r = 0) ∨ (p0.toInt ≤ (-2) ∧ r = (-1))) (fun (_ : Unit) t => zQ G [] A t) A) (va_A [zo a0 10 (.int 0 :: .ref a2 :: .int 0 :: .ref a3 :: .int 0 :: .ref a4 :: .ref a5 :: .ref a6 :: .ref a7 :: .ref a8 :: .int 0 :: .int 0 :: .int 0 :: .int 0 :: .int 0 :: .int 0 :: .int (-1) :: .int 0 :: .ref a9 :: .int 0 :: .int 0 :: .ref a10 :: .int 0 :: .int 0 :: .ref a11 :: .int 0 :: .int 0 :: .ref a12 :: .ref a13 :: .ref a14 :: .ref a15 :: .int 0 :: .int 0 :: .ref a16 :: .ref a17 :: .ref a18 :: .ref a19 :: .ref a20 :: .int 0 :: .ref a21 :: .ref a22 :: .int 0 :: .int 0 :: .ref a23 :: .ref a24 :: .ref a25 :: .ref a26 :: .ref a27 :: .int (-1) :: .ref a28 :: .ref a29 :: .ref a30 :: .ref a31 :: .ref a32 :: .ref a1 :: .ref a33 :: []), zi G a1 16 (fun _ => 0)] sz)) 0 0 (va_A [zo a0 10 (.int 0 :: .ref a2 :: .int 0 :: .ref a3 :: .int 0 :: .ref a4 :: .ref a5 :: .ref a6 :: .ref a7 :: .ref a8 :: .int 0 :: .int 0 :: .int 0 :: .int 0 :: .int 0 :: .int 0 :: .int (-1) :: .int 0 :: .ref a9 :: .int 0 :: .int 0 :: .ref a10 :: .int 0 :: .int 0 :: .ref a11 :: .int 0 :: .int 0 :: .ref a12 :: .ref a13 :: .ref a14 :: .ref a15 :: .int 0 :: .int 0 :: .ref a16 :: .ref a17 :: .ref a18 :: .ref a19 :: .ref a20 :: .int 0 :: .ref a21 :: .ref a22 :: .int 0 :: .int 0 :: .ref a23 :: .ref a24 :: .ref a25 :: .ref a26 :: .ref a27 :: .int (-1) :: .ref a28 :: .ref a29 :: .ref a30 :: .ref a31 :: .ref a32 :: .ref a1 :: .ref a33 :: []), zi G a1 16 (fun _ => 0)] sz) := by
  refine z_start (y := yX12_test) (bytes := cX12_test) (maxL := 5) (ret := (some .int)) (av := [.ref a0, .int p0]) (QA := (fun A => va_Qi (fun (r : Int32) (_ : Unit) => (0 ≤ p0.toInt ∧ r = (-1)) ∨ (p0.toInt = (-1) ∧ r = 0) ∨ (p0.toInt ≤ (-2) ∧ r = (-1))) (fun (_ : Unit) t => zQ G [] A t) A)) (by decide) ⟨Nat.le_of_ble_eq_true rfl, trivial⟩ ?_
  intro p e s m below meth c A ls E B hr hlocks hin hl
  have hl : lv_has ls 5 [(0, .ref a0), (1, .int p0)] := hl
  have B : zB G A s.heap [zo a0 10 (.int 0 :: .ref a2 :: .int 0 :: .ref a3 :: .int 0 :: .ref a4 :: .ref a5 :: .ref a6 :: .ref a7 :: .ref a8 :: .int 0 :: .int 0 :: .int 0 :: .int 0 :: .int 0 :: .int 0 :: .int (-1) :: .int 0 :: .ref a9 :: .int 0 :: .int 0 :: .ref a10 :: .int 0 :: .int 0 :: .ref a11 :: .int 0 :: .int 0 :: .ref a12 :: .ref a13 :: .ref a14 :: .ref a15 :: .int 0 :: .int 0 :: .ref a16 :: .ref a17 :: .ref a18 :: .ref a19 :: .ref a20 :: .int 0 :: .ref a21 :: .ref a22 :: .int 0 :: .int 0 :: .ref a23 :: .ref a24 :: .ref a25 :: .ref a26 :: .ref a27 :: .int (-1) :: .ref a28 :: .ref a29 :: .ref a30 :: .ref a31 :: .ref a32 :: .ref a1 :: .ref a33 :: []), zi G a1 16 (fun _ => 0)] s.heap [] := B
  refine lv_iload_n E.x E.b dX12_test_0 rfl (lv_at hl 1 rfl) ?_
  refine lv_iconst (v := (-1)) E.x E.b dX12_test_1 (by decide) ?_
  refine lv_icmp_ge (tgt := 7) E.x E.b dX12_test_2 (by decide) (fun c_1 => ?_) (fun c_1 => ?_)
  · have c_1f : (-1) ≤ p0.toInt := zi_le c_1
    refine lv_aload_n E.x E.b dX12_test_7 rfl (lv_at hl 0 rfl) ?_
    refine z_calli E B (wc := [zo a0 10 (.int 0 :: .ref a2 :: .int 0 :: .ref a3 :: .int 0 :: .ref a4 :: .ref a5 :: .ref a6 :: .ref a7 :: .ref a8 :: .int 0 :: .int 0 :: .int 0 :: .int 0 :: .int 0 :: .int 0 :: .int (-1) :: .int 0 :: .ref a9 :: .int 0 :: .int 0 :: .ref a10 :: .int 0 :: .int 0 :: .ref a11 :: .int 0 :: .int 0 :: .ref a12 :: .ref a13 :: .ref a14 :: .ref a15 :: .int 0 :: .int 0 :: .ref a16 :: .ref a17 :: .ref a18 :: .ref a19 :: .ref a20 :: .int 0 :: .ref a21 :: .ref a22 :: .int 0 :: .int 0 :: .ref a23 :: .ref a24 :: .ref a25 :: .ref a26 :: .ref a27 :: .int (-1) :: .ref a28 :: .ref a29 :: .ref a30 :: .ref a31 :: .ref a32 :: .ref a1 :: .ref a33 :: []), zi G a1 16 (fun _ => 0)]) (wr := []) [0, 1] [] rfl rfl (by decide) (by decide) (z_runV E B (As := []) (rest := []) [0, 1] rfl (by decide) mv_X12_testRows t_1673 0 (ci := 10) rfl rfl rfl (c_X12_testRows_216 l G _ a0 a1 a2 a3 a4 a5 a6 a7 a8 a9 a10 a11 a12 a13 a14 a15 a16 a17 a18 a19 a20 a21 a22 a23 a24 a25 a26 a27 a28 a29 a30 a31 a32 a33) rfl rfl ⟨Nat.le_of_ble_eq_true rfl, Nat.le_of_ble_eq_true rfl⟩ rfl hl.1 rfl (Nat.le_of_ble_eq_true rfl) dX12_test_8 ⟨(Nat.le_of_ble_eq_true rfl), (Nat.le_of_ble_eq_true rfl)⟩) (fun r t H locs hp hB J => ?_)
    have hq := hB
    have B := J _ hq
    have B : zB G A s.heap [zo a0 10 (.int 0 :: .ref a2 :: .int 0 :: .ref a3 :: .int 0 :: .ref a4 :: .ref a5 :: .ref a6 :: .ref a7 :: .ref a8 :: .int 0 :: .int 0 :: .int 0 :: .int 0 :: .int 0 :: .int 0 :: .int (-1) :: .int 0 :: .ref a9 :: .int 0 :: .int 0 :: .ref a10 :: .int 0 :: .int 0 :: .ref a11 :: .int 0 :: .int 0 :: .ref a12 :: .ref a13 :: .ref a14 :: .ref a15 :: .int 0 :: .int 0 :: .ref a16 :: .ref a17 :: .ref a18 :: .ref a19 :: .ref a20 :: .int 0 :: .ref a21 :: .ref a22 :: .int 0 :: .int 0 :: .ref a23 :: .ref a24 :: .ref a25 :: .ref a26 :: .ref a27 :: .int (-1) :: .ref a28 :: .ref a29 :: .ref a30 :: .ref a31 :: .ref a32 :: .ref a1 :: .ref a33 :: []), zi G a1 16 (fun _ => 0)] _ _ := B
    have hp := hp.symm
    subst hp
    refine lv_istore_n (lv' := [(2, .int 0), (0, .ref a0), (1, .int p0)]) E.x E.b dX12_test_11 rfl hl (by decide) rfl (fun ls hl => ?_)
    refine lv_iconst (v := 0) E.x E.b dX12_test_12 (by decide) ?_
    refine lv_istore_n (lv' := [(3, .int 0), (2, .int 0), (0, .ref a0), (1, .int p0)]) E.x E.b dX12_test_13 rfl hl (by decide) rfl (fun ls hl => ?_)
    refine lv_iconst (v := 0) E.x E.b dX12_test_14 (by decide) ?_
    refine lv_istore (lv' := [(4, .int 0), (3, .int 0), (2, .int 0), (0, .ref a0), (1, .int p0)]) E.x E.b dX12_test_15 hl (by decide) rfl (fun ls hl => ?_)
    refine lv_iload E.x E.b dX12_test_17 (lv_at hl 0 rfl) ?_
    refine lv_aload_n E.x E.b dX12_test_19 rfl (lv_at hl 3 rfl) ?_
    refine z_calli E B (wc := [zo a0 10 (.int 0 :: .ref a2 :: .int 0 :: .ref a3 :: .int 0 :: .ref a4 :: .ref a5 :: .ref a6 :: .ref a7 :: .ref a8 :: .int 0 :: .int 0 :: .int 0 :: .int 0 :: .int 0 :: .int 0 :: .int (-1) :: .int 0 :: .ref a9 :: .int 0 :: .int 0 :: .ref a10 :: .int 0 :: .int 0 :: .ref a11 :: .int 0 :: .int 0 :: .ref a12 :: .ref a13 :: .ref a14 :: .ref a15 :: .int 0 :: .int 0 :: .ref a16 :: .ref a17 :: .ref a18 :: .ref a19 :: .ref a20 :: .int 0 :: .ref a21 :: .ref a22 :: .int 0 :: .int 0 :: .ref a23 :: .ref a24 :: .ref a25 :: .ref a26 :: .ref a27 :: .int (-1) :: .ref a28 :: .ref a29 :: .ref a30 :: .ref a31 :: .ref a32 :: .ref a1 :: .ref a33 :: [])]) (wr := [zi G a1 16 (fun _ => 0)]) [0] [1] rfl rfl (by decide) (by decide) (z_runV E B (As := []) (rest := [.int 0]) [0] rfl (by decide) mv_X12_rows t_1462 0 (ci := 10) rfl rfl rfl (c_X12_rows_168 l G _ a0 a2 a3 a4 a5 a6 a7 a8 a9 a10 a11 a12 a13 a14 a15 a16 a17 a18 a19 a20 a21 a22 a23 a24 a25 a26 a27 a28 a29 a30 a31 a32 a1 a33) rfl rfl ⟨Nat.le_of_ble_eq_true rfl, Nat.le_of_ble_eq_true rfl⟩ rfl hl.1 rfl (Nat.le_of_ble_eq_true rfl) dX12_test_20 ⟨(Nat.le_of_ble_eq_true rfl), (Nat.le_of_ble_eq_true rfl)⟩) (fun r t H locs hp hB J => ?_)
    have hq := hB
    have B := J _ hq
    have B : zB G A s.heap [zi G a1 16 (fun _ => 0), zo a0 10 (.int 0 :: .ref a2 :: .int 0 :: .ref a3 :: .int 0 :: .ref a4 :: .ref a5 :: .ref a6 :: .ref a7 :: .ref a8 :: .int 0 :: .int 0 :: .int 0 :: .int 0 :: .int 0 :: .int 0 :: .int (-1) :: .int 0 :: .ref a9 :: .int 0 :: .int 0 :: .ref a10 :: .int 0 :: .int 0 :: .ref a11 :: .int 0 :: .int 0 :: .ref a12 :: .ref a13 :: .ref a14 :: .ref a15 :: .int 0 :: .int 0 :: .ref a16 :: .ref a17 :: .ref a18 :: .ref a19 :: .ref a20 :: .int 0 :: .ref a21 :: .ref a22 :: .int 0 :: .int 0 :: .ref a23 :: .ref a24 :: .ref a25 :: .ref a26 :: .ref a27 :: .int (-1) :: .ref a28 :: .ref a29 :: .ref a30 :: .ref a31 :: .ref a32 :: .ref a1 :: .ref a33 :: [])] _ _ := B
    have hp := hp.symm
    subst hp
    refine lv_icmp_ge (tgt := 55) E.x E.b dX12_test_23 (by decide) (fun c => absurd c (by decide +kernel)) (fun _ => ?_)
    refine lv_iload_n E.x E.b dX12_test_26 rfl (lv_at hl 2 rfl) ?_
    refine lv_iload E.x E.b dX12_test_27 (lv_at hl 0 rfl) ?_
    refine z_calli E B (wc := []) (wr := [zi G a1 16 (fun _ => 0), zo a0 10 (.int 0 :: .ref a2 :: .int 0 :: .ref a3 :: .int 0 :: .ref a4 :: .ref a5 :: .ref a6 :: .ref a7 :: .ref a8 :: .int 0 :: .int 0 :: .int 0 :: .int 0 :: .int 0 :: .int 0 :: .int (-1) :: .int 0 :: .ref a9 :: .int 0 :: .int 0 :: .ref a10 :: .int 0 :: .int 0 :: .ref a11 :: .int 0 :: .int 0 :: .ref a12 :: .ref a13 :: .ref a14 :: .ref a15 :: .int 0 :: .int 0 :: .ref a16 :: .ref a17 :: .ref a18 :: .ref a19 :: .ref a20 :: .int 0 :: .ref a21 :: .ref a22 :: .int 0 :: .int 0 :: .ref a23 :: .ref a24 :: .ref a25 :: .ref a26 :: .ref a27 :: .int (-1) :: .ref a28 :: .ref a29 :: .ref a30 :: .ref a31 :: .ref a32 :: .ref a1 :: .ref a33 :: [])]) [] [0, 1] rfl rfl (by decide) (by decide) (z_runS E B (As := [.int 0, .int 0]) (rest := []) [] rfl (by decide) ms_X12_has t_1466 (c_X12_has_213 l G _) rfl rfl ⟨Nat.le_of_ble_eq_true rfl, Nat.le_of_ble_eq_true rfl⟩ rfl hl.1 rfl (Nat.le_of_ble_eq_true rfl) dX12_test_29 ⟨(Nat.le_of_ble_eq_true rfl), (Nat.le_of_ble_eq_true rfl)⟩) (fun r t H locs hp hB J => ?_)
    have hq := hB
    have B := J _ hq
    have B : zB G A s.heap [zi G a1 16 (fun _ => 0), zo a0 10 (.int 0 :: .ref a2 :: .int 0 :: .ref a3 :: .int 0 :: .ref a4 :: .ref a5 :: .ref a6 :: .ref a7 :: .ref a8 :: .int 0 :: .int 0 :: .int 0 :: .int 0 :: .int 0 :: .int 0 :: .int (-1) :: .int 0 :: .ref a9 :: .int 0 :: .int 0 :: .ref a10 :: .int 0 :: .int 0 :: .ref a11 :: .int 0 :: .int 0 :: .ref a12 :: .ref a13 :: .ref a14 :: .ref a15 :: .int 0 :: .int 0 :: .ref a16 :: .ref a17 :: .ref a18 :: .ref a19 :: .ref a20 :: .int 0 :: .ref a21 :: .ref a22 :: .int 0 :: .int 0 :: .ref a23 :: .ref a24 :: .ref a25 :: .ref a26 :: .ref a27 :: .int (-1) :: .ref a28 :: .ref a29 :: .ref a30 :: .ref a31 :: .ref a32 :: .ref a1 :: .ref a33 :: [])] _ _ := B
    have hp := hp.symm
    subst hp
    refine lv_if_ne (tgt := 38) E.x E.b dX12_test_32 (by decide) (fun c => absurd (by decide +kernel) c) (fun _ => ?_)
    refine lv_goto (tgt := 49) E.x E.b dX12_test_35 (by decide) ?_
    refine lv_iinc (v := 1) (lv' := [(4, .int 1), (3, .int 0), (2, .int 0), (0, .ref a0), (1, .int p0)]) E.x E.b dX12_test_49 hl (k := 0) rfl (by decide +kernel) (by decide) rfl (fun ls hl => ?_)
    refine lv_goto (tgt := 17) E.x E.b dX12_test_52 (by decide) ?_
    refine lv_iload E.x E.b dX12_test_17 (lv_at hl 0 rfl) ?_
    refine lv_aload_n E.x E.b dX12_test_19 rfl (lv_at hl 3 rfl) ?_
    refine z_calli E B (wc := [zo a0 10 (.int 0 :: .ref a2 :: .int 0 :: .ref a3 :: .int 0 :: .ref a4 :: .ref a5 :: .ref a6 :: .ref a7 :: .ref a8 :: .int 0 :: .int 0 :: .int 0 :: .int 0 :: .int 0 :: .int 0 :: .int (-1) :: .int 0 :: .ref a9 :: .int 0 :: .int 0 :: .ref a10 :: .int 0 :: .int 0 :: .ref a11 :: .int 0 :: .int 0 :: .ref a12 :: .ref a13 :: .ref a14 :: .ref a15 :: .int 0 :: .int 0 :: .ref a16 :: .ref a17 :: .ref a18 :: .ref a19 :: .ref a20 :: .int 0 :: .ref a21 :: .ref a22 :: .int 0 :: .int 0 :: .ref a23 :: .ref a24 :: .ref a25 :: .ref a26 :: .ref a27 :: .int (-1) :: .ref a28 :: .ref a29 :: .ref a30 :: .ref a31 :: .ref a32 :: .ref a1 :: .ref a33 :: [])]) (wr := [zi G a1 16 (fun _ => 0)]) [1] [0] rfl rfl (by decide) (by decide) (z_runV E B (As := []) (rest := [.int 1]) [1] rfl (by decide) mv_X12_rows t_1462 0 (ci := 10) rfl rfl rfl (c_X12_rows_168 l G _ a0 a2 a3 a4 a5 a6 a7 a8 a9 a10 a11 a12 a13 a14 a15 a16 a17 a18 a19 a20 a21 a22 a23 a24 a25 a26 a27 a28 a29 a30 a31 a32 a1 a33) rfl rfl ⟨Nat.le_of_ble_eq_true rfl, Nat.le_of_ble_eq_true rfl⟩ rfl hl.1 rfl (Nat.le_of_ble_eq_true rfl) dX12_test_20 ⟨(Nat.le_of_ble_eq_true rfl), (Nat.le_of_ble_eq_true rfl)⟩) (fun r t H locs hp hB J => ?_)
    have hq := hB
    have B := J _ hq
    have B : zB G A s.heap [zi G a1 16 (fun _ => 0), zo a0 10 (.int 0 :: .ref a2 :: .int 0 :: .ref a3 :: .int 0 :: .ref a4 :: .ref a5 :: .ref a6 :: .ref a7 :: .ref a8 :: .int 0 :: .int 0 :: .int 0 :: .int 0 :: .int 0 :: .int 0 :: .int (-1) :: .int 0 :: .ref a9 :: .int 0 :: .int 0 :: .ref a10 :: .int 0 :: .int 0 :: .ref a11 :: .int 0 :: .int 0 :: .ref a12 :: .ref a13 :: .ref a14 :: .ref a15 :: .int 0 :: .int 0 :: .ref a16 :: .ref a17 :: .ref a18 :: .ref a19 :: .ref a20 :: .int 0 :: .ref a21 :: .ref a22 :: .int 0 :: .int 0 :: .ref a23 :: .ref a24 :: .ref a25 :: .ref a26 :: .ref a27 :: .int (-1) :: .ref a28 :: .ref a29 :: .ref a30 :: .ref a31 :: .ref a32 :: .ref a1 :: .ref a33 :: [])] _ _ := B
    have hp := hp.symm
    subst hp
    refine lv_icmp_ge (tgt := 55) E.x E.b dX12_test_23 (by decide) (fun _ => ?_) (fun c => absurd (by decide +kernel) c)
    refine lv_iload_n E.x E.b dX12_test_55 rfl (lv_at hl 4 rfl) ?_
    refine lv_iconst (v := (-1)) E.x E.b dX12_test_56 (by decide) ?_
    refine lv_icmp_ne (tgt := 64) E.x E.b dX12_test_57 (by decide) (fun c_2 => ?_) (fun c_2 => ?_)
    · have c_2f : ¬ p0.toInt = (-1) := zi_ne c_2
      refine lv_iconst (v := (-1)) E.x E.b dX12_test_64 (by decide) ?_
      refine W.widen (k := 0) (n := 0) (Nat.le_of_ble_eq_true rfl) (Nat.le_of_ble_eq_true rfl) ?_
      exact z_iret E hr hlocks B (v := (-1)) (Or.inl ⟨(by first | decide | omega), rfl⟩) (fun t ht => z_q B [] (by decide) rfl ht) dX12_test_65
    · have c_2f : p0.toInt = (-1) := zi_eq c_2
      obtain rfl := zi_pt (x := p0) (-1) (by show p0.toInt = (-1); omega)
      refine lv_iload_n E.x E.b dX12_test_60 rfl (lv_at hl 1 rfl) ?_
      refine lv_goto (tgt := 65) E.x E.b dX12_test_61 (by decide) ?_
      refine W.widen (k := 0) (n := 0) (Nat.le_of_ble_eq_true rfl) (Nat.le_of_ble_eq_true rfl) ?_
      exact z_iret E hr hlocks B (v := 0) (Or.inr (Or.inl ⟨(by first | decide | omega), rfl⟩)) (fun t ht => z_q B [] (by decide) rfl ht) dX12_test_65
  · have c_1f : p0.toInt < (-1) := zi_nle c_1
    refine lv_iconst (v := (-1)) E.x E.b dX12_test_5 (by decide) ?_
    refine W.widen (k := 0) (n := 0) (Nat.le_of_ble_eq_true rfl) (Nat.le_of_ble_eq_true rfl) ?_
    exact z_iret E hr hlocks B (v := (-1)) (Or.inr (Or.inr (⟨(by first | decide | omega), rfl⟩))) (fun t ht => z_q B [] (by decide) rfl ht) dX12_test_6
set_option maxHeartbeats 4000000 in
set_option maxRecDepth 100000 in
theorem c_X12_in_218 (l : Launch) (G : zGT) (sz : Nat) (p0 : Int32) : Met l yX12_in (.code yX12_in cX12_in 3 (some .boolean) :: zT) ({ frames := 0, cells := 0, slots := 0, locals := 64 }) (va_Pc [.int p0, .int 0, .int 2] (zPc G [] sz)) ((fun A => va_Qi (fun (r : Int32) (_ : Unit) => (p0.toInt ≤ (-1) ∧ r = 0) ∨ (3 ≤ p0.toInt ∧ r = 0) ∨ (0 ≤ p0.toInt ∧ p0.toInt ≤ 2 ∧ r = 1)) (fun (_ : Unit) t => zQ G [] A t) A) (va_A [] sz)) 0 0 (va_A [] sz) := by
  refine z_start (y := yX12_in) (bytes := cX12_in) (maxL := 3) (ret := (some .boolean)) (av := [.int p0, .int 0, .int 2]) (QA := (fun A => va_Qi (fun (r : Int32) (_ : Unit) => (p0.toInt ≤ (-1) ∧ r = 0) ∨ (3 ≤ p0.toInt ∧ r = 0) ∨ (0 ≤ p0.toInt ∧ p0.toInt ≤ 2 ∧ r = 1)) (fun (_ : Unit) t => zQ G [] A t) A)) (by decide) ⟨Nat.le_of_ble_eq_true rfl, trivial⟩ ?_
  intro p e s m below meth c A ls E B hr hlocks hin hl
  have hl : lv_has ls 3 [(0, .int p0), (1, .int 0), (2, .int 2)] := hl
  have B : zB G A s.heap [] s.heap [] := B
  refine lv_iload_n E.x E.b dX12_in_0 rfl (lv_at hl 0 rfl) ?_
  refine lv_iload_n E.x E.b dX12_in_1 rfl (lv_at hl 1 rfl) ?_
  refine lv_icmp_lt (tgt := 14) E.x E.b dX12_in_2 (by decide) (fun c_1 => ?_) (fun c_1 => ?_)
  · have c_1f : p0.toInt < 0 := zi_lt c_1
    refine lv_iconst (v := 0) E.x E.b dX12_in_14 (by decide) ?_
    refine W.widen (k := 0) (n := 0) (Nat.le_of_ble_eq_true rfl) (Nat.le_of_ble_eq_true rfl) ?_
    exact z_zret E hr hlocks B (v := 0) rfl (Or.inl ⟨(by first | decide | omega), rfl⟩) (fun t ht => z_q B [] (by decide) rfl ht) dX12_in_15
  · have c_1f : 0 ≤ p0.toInt := zi_nlt c_1
    refine lv_iload_n E.x E.b dX12_in_5 rfl (lv_at hl 0 rfl) ?_
    refine lv_iload_n E.x E.b dX12_in_6 rfl (lv_at hl 2 rfl) ?_
    refine lv_icmp_gt (tgt := 14) E.x E.b dX12_in_7 (by decide) (fun c_2 => ?_) (fun c_2 => ?_)
    · have c_2f : 2 < p0.toInt := zi_lt c_2
      refine lv_iconst (v := 0) E.x E.b dX12_in_14 (by decide) ?_
      refine W.widen (k := 0) (n := 0) (Nat.le_of_ble_eq_true rfl) (Nat.le_of_ble_eq_true rfl) ?_
      exact z_zret E hr hlocks B (v := 0) rfl (Or.inr (Or.inl ⟨(by first | decide | omega), rfl⟩)) (fun t ht => z_q B [] (by decide) rfl ht) dX12_in_15
    · have c_2f : p0.toInt ≤ 2 := zi_nlt c_2
      refine lv_iconst (v := 1) E.x E.b dX12_in_10 (by decide) ?_
      refine lv_goto (tgt := 15) E.x E.b dX12_in_11 (by decide) ?_
      refine W.widen (k := 0) (n := 0) (Nat.le_of_ble_eq_true rfl) (Nat.le_of_ble_eq_true rfl) ?_
      exact z_zret E hr hlocks B (v := 1) rfl (Or.inr (Or.inr (⟨(by first | decide | omega), (by first | decide | omega), rfl⟩))) (fun t ht => z_q B [] (by decide) rfl ht) dX12_in_15
set_option maxHeartbeats 4000000 in
set_option maxRecDepth 100000 in
theorem c_X12_like_219 (l : Launch) (G : zGT) (sz : Nat) (a0 a1 a2 a3 a4 a5 a6 a7 a8 a9 a10 a11 a12 a13 a14 a15 a16 a17 a18 a19 a20 a21 a22 a23 a24 a25 a26 a27 a28 a29 a30 a31 a32 a33 : Nat) (p0 : Int32) : Met l yX12_like (.code yX12_like cX12_like 10 (some .int) :: zT) ({ frames := 1, cells := 0, slots := 0, locals := 86 }) (va_Pc [.ref a0, .int p0] (zPc G [zo a0 10 (.int 0 :: .ref a2 :: .int 0 :: .ref a3 :: .int 0 :: .ref a4 :: .ref a5 :: .ref a6 :: .ref a7 :: .ref a8 :: .int 0 :: .int 0 :: .int 0 :: .int 0 :: .int 0 :: .int 0 :: .int (-1) :: .int 0 :: .ref a9 :: .int 0 :: .int 0 :: .ref a10 :: .int 0 :: .int 0 :: .ref a11 :: .int 0 :: .int 0 :: .ref a12 :: .ref a13 :: .ref a14 :: .ref a15 :: .int 0 :: .int 0 :: .ref a16 :: .ref a1 :: .ref a17 :: .ref a18 :: .ref a19 :: .int 0 :: .ref a20 :: .ref a21 :: .int 0 :: .int 0 :: .ref a22 :: .ref a23 :: .ref a24 :: .ref a25 :: .ref a26 :: .int (-1) :: .ref a27 :: .ref a28 :: .ref a29 :: .ref a30 :: .ref a31 :: .ref a32 :: .ref a33 :: []), zz G a1 3 (fun _ => 0)] sz)) ((fun A => va_Qi (fun (r : Int32) (_ : Unit) => r = (-1)) (fun (_ : Unit) t => zQ G [] A t) A) (va_A [zo a0 10 (.int 0 :: .ref a2 :: .int 0 :: .ref a3 :: .int 0 :: .ref a4 :: .ref a5 :: .ref a6 :: .ref a7 :: .ref a8 :: .int 0 :: .int 0 :: .int 0 :: .int 0 :: .int 0 :: .int 0 :: .int (-1) :: .int 0 :: .ref a9 :: .int 0 :: .int 0 :: .ref a10 :: .int 0 :: .int 0 :: .ref a11 :: .int 0 :: .int 0 :: .ref a12 :: .ref a13 :: .ref a14 :: .ref a15 :: .int 0 :: .int 0 :: .ref a16 :: .ref a1 :: .ref a17 :: .ref a18 :: .ref a19 :: .int 0 :: .ref a20 :: .ref a21 :: .int 0 :: .int 0 :: .ref a22 :: .ref a23 :: .ref a24 :: .ref a25 :: .ref a26 :: .int (-1) :: .ref a27 :: .ref a28 :: .ref a29 :: .ref a30 :: .ref a31 :: .ref a32 :: .ref a33 :: []), zz G a1 3 (fun _ => 0)] sz)) 0 0 (va_A [zo a0 10 (.int 0 :: .ref a2 :: .int 0 :: .ref a3 :: .int 0 :: .ref a4 :: .ref a5 :: .ref a6 :: .ref a7 :: .ref a8 :: .int 0 :: .int 0 :: .int 0 :: .int 0 :: .int 0 :: .int 0 :: .int (-1) :: .int 0 :: .ref a9 :: .int 0 :: .int 0 :: .ref a10 :: .int 0 :: .int 0 :: .ref a11 :: .int 0 :: .int 0 :: .ref a12 :: .ref a13 :: .ref a14 :: .ref a15 :: .int 0 :: .int 0 :: .ref a16 :: .ref a1 :: .ref a17 :: .ref a18 :: .ref a19 :: .int 0 :: .ref a20 :: .ref a21 :: .int 0 :: .int 0 :: .ref a22 :: .ref a23 :: .ref a24 :: .ref a25 :: .ref a26 :: .int (-1) :: .ref a27 :: .ref a28 :: .ref a29 :: .ref a30 :: .ref a31 :: .ref a32 :: .ref a33 :: []), zz G a1 3 (fun _ => 0)] sz) := by
  refine z_start (y := yX12_like) (bytes := cX12_like) (maxL := 10) (ret := (some .int)) (av := [.ref a0, .int p0]) (QA := (fun A => va_Qi (fun (r : Int32) (_ : Unit) => r = (-1)) (fun (_ : Unit) t => zQ G [] A t) A)) (by decide) ⟨Nat.le_of_ble_eq_true rfl, trivial⟩ ?_
  intro p e s m below meth c A ls E B hr hlocks hin hl
  have hl : lv_has ls 10 [(0, .ref a0), (1, .int p0)] := hl
  have B : zB G A s.heap [zo a0 10 (.int 0 :: .ref a2 :: .int 0 :: .ref a3 :: .int 0 :: .ref a4 :: .ref a5 :: .ref a6 :: .ref a7 :: .ref a8 :: .int 0 :: .int 0 :: .int 0 :: .int 0 :: .int 0 :: .int 0 :: .int (-1) :: .int 0 :: .ref a9 :: .int 0 :: .int 0 :: .ref a10 :: .int 0 :: .int 0 :: .ref a11 :: .int 0 :: .int 0 :: .ref a12 :: .ref a13 :: .ref a14 :: .ref a15 :: .int 0 :: .int 0 :: .ref a16 :: .ref a1 :: .ref a17 :: .ref a18 :: .ref a19 :: .int 0 :: .ref a20 :: .ref a21 :: .int 0 :: .int 0 :: .ref a22 :: .ref a23 :: .ref a24 :: .ref a25 :: .ref a26 :: .int (-1) :: .ref a27 :: .ref a28 :: .ref a29 :: .ref a30 :: .ref a31 :: .ref a32 :: .ref a33 :: []), zz G a1 3 (fun _ => 0)] s.heap [] := B
  refine lv_iload_n E.x E.b dX12_like_0 rfl (lv_at hl 1 rfl) ?_
  refine lv_iconst (v := 0) E.x E.b dX12_like_1 (by decide) ?_
  refine lv_iconst (v := 2) E.x E.b dX12_like_2 (by decide) ?_
  refine z_calli E B (wc := []) (wr := [zo a0 10 (.int 0 :: .ref a2 :: .int 0 :: .ref a3 :: .int 0 :: .ref a4 :: .ref a5 :: .ref a6 :: .ref a7 :: .ref a8 :: .int 0 :: .int 0 :: .int 0 :: .int 0 :: .int 0 :: .int 0 :: .int (-1) :: .int 0 :: .ref a9 :: .int 0 :: .int 0 :: .ref a10 :: .int 0 :: .int 0 :: .ref a11 :: .int 0 :: .int 0 :: .ref a12 :: .ref a13 :: .ref a14 :: .ref a15 :: .int 0 :: .int 0 :: .ref a16 :: .ref a1 :: .ref a17 :: .ref a18 :: .ref a19 :: .int 0 :: .ref a20 :: .ref a21 :: .int 0 :: .int 0 :: .ref a22 :: .ref a23 :: .ref a24 :: .ref a25 :: .ref a26 :: .int (-1) :: .ref a27 :: .ref a28 :: .ref a29 :: .ref a30 :: .ref a31 :: .ref a32 :: .ref a33 :: []), zz G a1 3 (fun _ => 0)]) [] [0, 1] rfl rfl (by decide) (by decide) (z_runS E B (As := [.int p0, .int 0, .int 2]) (rest := []) [] rfl (by decide) ms_X12_in t_1439 (c_X12_in_218 l G _ p0) rfl rfl ⟨Nat.le_of_ble_eq_true rfl, Nat.le_of_ble_eq_true rfl⟩ rfl hl.1 rfl (Nat.le_of_ble_eq_true rfl) dX12_like_3 ⟨(Nat.le_of_ble_eq_true rfl), (Nat.le_of_ble_eq_true rfl)⟩) (fun r t H locs hp hB J => ?_)
  have hq := hB
  have B := J _ hq
  have B : zB G A s.heap [zo a0 10 (.int 0 :: .ref a2 :: .int 0 :: .ref a3 :: .int 0 :: .ref a4 :: .ref a5 :: .ref a6 :: .ref a7 :: .ref a8 :: .int 0 :: .int 0 :: .int 0 :: .int 0 :: .int 0 :: .int 0 :: .int (-1) :: .int 0 :: .ref a9 :: .int 0 :: .int 0 :: .ref a10 :: .int 0 :: .int 0 :: .ref a11 :: .int 0 :: .int 0 :: .ref a12 :: .ref a13 :: .ref a14 :: .ref a15 :: .int 0 :: .int 0 :: .ref a16 :: .ref a1 :: .ref a17 :: .ref a18 :: .ref a19 :: .int 0 :: .ref a20 :: .ref a21 :: .int 0 :: .int 0 :: .ref a22 :: .ref a23 :: .ref a24 :: .ref a25 :: .ref a26 :: .int (-1) :: .ref a27 :: .ref a28 :: .ref a29 :: .ref a30 :: .ref a31 :: .ref a32 :: .ref a33 :: []), zz G a1 3 (fun _ => 0)] _ _ := B
  rcases hp with ⟨c_1, rfl⟩ | ⟨c_2, rfl⟩ | ⟨c_3, c_4, rfl⟩
  · skip
    refine lv_if_eq (tgt := 18) E.x E.b dX12_like_6 (by decide) (fun _ => ?_) (fun c => absurd (by decide +kernel) c)
    refine lv_iconst (v := (-1)) E.x E.b dX12_like_18 (by decide) ?_
    refine W.widen (k := 0) (n := 0) (Nat.le_of_ble_eq_true rfl) (Nat.le_of_ble_eq_true rfl) ?_
    exact z_iret E hr hlocks B (v := (-1)) rfl (fun t ht => z_q B [] (by decide) rfl ht) dX12_like_19
  · skip
    refine lv_if_eq (tgt := 18) E.x E.b dX12_like_6 (by decide) (fun _ => ?_) (fun c => absurd (by decide +kernel) c)
    refine lv_iconst (v := (-1)) E.x E.b dX12_like_18 (by decide) ?_
    refine W.widen (k := 0) (n := 0) (Nat.le_of_ble_eq_true rfl) (Nat.le_of_ble_eq_true rfl) ?_
    exact z_iret E hr hlocks B (v := (-1)) rfl (fun t ht => z_q B [] (by decide) rfl ht) dX12_like_19
  · skip
    refine lv_if_eq (tgt := 18) E.x E.b dX12_like_6 (by decide) (fun c => absurd c (by decide +kernel)) (fun _ => ?_)
    refine lv_aload_n E.x E.b dX12_like_9 rfl (lv_at hl 0 rfl) ?_
    refine z_get E B z_inX12 (ci := 10) rfl 34 (by decide) t_1226 0 rfl rfl dX12_like_10 ?_
    refine lv_iload_n E.x E.b dX12_like_13 rfl (lv_at hl 1 rfl) ?_
    by_cases e_5 : p0 = 0
    · subst e_5
      refine z_zald E B 1 rfl (show ¬ ((0 : Int32) < 0 ∨ 3 ≤ (0 : Int32).toNatClampNeg) by decide +kernel) dX12_like_14 (z_topi 0 rfl ?_)
      refine lv_if_ne (tgt := 20) E.x E.b dX12_like_15 (by decide) (fun c => absurd (by decide +kernel) c) (fun _ => ?_)
      refine lv_iconst (v := (-1)) E.x E.b dX12_like_18 (by decide) ?_
      refine W.widen (k := 0) (n := 0) (Nat.le_of_ble_eq_true rfl) (Nat.le_of_ble_eq_true rfl) ?_
      exact z_iret E hr hlocks B (v := (-1)) rfl (fun t ht => z_q B [] (by decide) rfl ht) dX12_like_19
    · have e_5m : ¬ p0.toInt = 0 := zi_ne e_5
      by_cases e_6 : p0 = 1
      · subst e_6
        refine z_zald E B 1 rfl (show ¬ ((1 : Int32) < 0 ∨ 3 ≤ (1 : Int32).toNatClampNeg) by decide +kernel) dX12_like_14 (z_topi 0 rfl ?_)
        refine lv_if_ne (tgt := 20) E.x E.b dX12_like_15 (by decide) (fun c => absurd (by decide +kernel) c) (fun _ => ?_)
        refine lv_iconst (v := (-1)) E.x E.b dX12_like_18 (by decide) ?_
        refine W.widen (k := 0) (n := 0) (Nat.le_of_ble_eq_true rfl) (Nat.le_of_ble_eq_true rfl) ?_
        exact z_iret E hr hlocks B (v := (-1)) rfl (fun t ht => z_q B [] (by decide) rfl ht) dX12_like_19
      · have e_6m : ¬ p0.toInt = 1 := zi_ne e_6
        by_cases e_7 : p0 = 2
        · subst e_7
          refine z_zald E B 1 rfl (show ¬ ((2 : Int32) < 0 ∨ 3 ≤ (2 : Int32).toNatClampNeg) by decide +kernel) dX12_like_14 (z_topi 0 rfl ?_)
          refine lv_if_ne (tgt := 20) E.x E.b dX12_like_15 (by decide) (fun c => absurd (by decide +kernel) c) (fun _ => ?_)
          refine lv_iconst (v := (-1)) E.x E.b dX12_like_18 (by decide) ?_
          refine W.widen (k := 0) (n := 0) (Nat.le_of_ble_eq_true rfl) (Nat.le_of_ble_eq_true rfl) ?_
          exact z_iret E hr hlocks B (v := (-1)) rfl (fun t ht => z_q B [] (by decide) rfl ht) dX12_like_19
        · exfalso
          have e_7n := zi_ne e_7
          have e_7m : ¬ p0.toInt = 2 := e_7n
          omega
set_option maxHeartbeats 4000000 in
set_option maxRecDepth 100000 in
theorem c_X12_table_220 (l : Launch) (G : zGT) (sz : Nat) (a0 a1 a2 a3 a4 a5 a6 a7 a8 a9 a10 a11 a12 a13 a14 a15 a16 a17 a18 a19 a20 a21 a22 a23 a24 a25 a26 a27 a28 a29 a30 a31 a32 a33 : Nat) (p0 : Int32) : Met l yX12_table (.code yX12_table cX12_table 2 (some .int) :: zT) ({ frames := 0, cells := 0, slots := 0, locals := 64 }) (va_Pc [.ref a0, .int p0] (zPc G [zo a0 10 (.int 0 :: .ref a1 :: .int 0 :: .ref a2 :: .int 0 :: .ref a3 :: .ref a4 :: .ref a5 :: .ref a6 :: .ref a7 :: .int 0 :: .int 0 :: .int 0 :: .int 0 :: .int 0 :: .int 0 :: .int (-1) :: .int 0 :: .ref a8 :: .int 0 :: .int 0 :: .ref a9 :: .int 0 :: .int 0 :: .ref a10 :: .int 0 :: .int 0 :: .ref a11 :: .ref a12 :: .ref a13 :: .ref a14 :: .int 0 :: .int 0 :: .ref a15 :: .ref a16 :: .ref a17 :: .ref a18 :: .ref a19 :: .int 0 :: .ref a20 :: .ref a21 :: .int 0 :: .int 0 :: .ref a22 :: .ref a23 :: .ref a24 :: .ref a25 :: .ref a26 :: .int (-1) :: .ref a27 :: .ref a28 :: .ref a29 :: .ref a30 :: .ref a31 :: .ref a32 :: .ref a33 :: [])] sz)) ((fun A => va_Qi (fun (r : Int32) (_ : Unit) => r = (-1)) (fun (_ : Unit) t => zQ G [] A t) A) (va_A [zo a0 10 (.int 0 :: .ref a1 :: .int 0 :: .ref a2 :: .int 0 :: .ref a3 :: .ref a4 :: .ref a5 :: .ref a6 :: .ref a7 :: .int 0 :: .int 0 :: .int 0 :: .int 0 :: .int 0 :: .int 0 :: .int (-1) :: .int 0 :: .ref a8 :: .int 0 :: .int 0 :: .ref a9 :: .int 0 :: .int 0 :: .ref a10 :: .int 0 :: .int 0 :: .ref a11 :: .ref a12 :: .ref a13 :: .ref a14 :: .int 0 :: .int 0 :: .ref a15 :: .ref a16 :: .ref a17 :: .ref a18 :: .ref a19 :: .int 0 :: .ref a20 :: .ref a21 :: .int 0 :: .int 0 :: .ref a22 :: .ref a23 :: .ref a24 :: .ref a25 :: .ref a26 :: .int (-1) :: .ref a27 :: .ref a28 :: .ref a29 :: .ref a30 :: .ref a31 :: .ref a32 :: .ref a33 :: [])] sz)) 0 0 (va_A [zo a0 10 (.int 0 :: .ref a1 :: .int 0 :: .ref a2 :: .int 0 :: .ref a3 :: .ref a4 :: .ref a5 :: .ref a6 :: .ref a7 :: .int 0 :: .int 0 :: .int 0 :: .int 0 :: .int 0 :: .int 0 :: .int (-1) :: .int 0 :: .ref a8 :: .int 0 :: .int 0 :: .ref a9 :: .int 0 :: .int 0 :: .ref a10 :: .int 0 :: .int 0 :: .ref a11 :: .ref a12 :: .ref a13 :: .ref a14 :: .int 0 :: .int 0 :: .ref a15 :: .ref a16 :: .ref a17 :: .ref a18 :: .ref a19 :: .int 0 :: .ref a20 :: .ref a21 :: .int 0 :: .int 0 :: .ref a22 :: .ref a23 :: .ref a24 :: .ref a25 :: .ref a26 :: .int (-1) :: .ref a27 :: .ref a28 :: .ref a29 :: .ref a30 :: .ref a31 :: .ref a32 :: .ref a33 :: [])] sz) := by
  refine z_start (y := yX12_table) (bytes := cX12_table) (maxL := 2) (ret := (some .int)) (av := [.ref a0, .int p0]) (QA := (fun A => va_Qi (fun (r : Int32) (_ : Unit) => r = (-1)) (fun (_ : Unit) t => zQ G [] A t) A)) (by decide) ⟨Nat.le_of_ble_eq_true rfl, trivial⟩ ?_
  intro p e s m below meth c A ls E B hr hlocks hin hl
  have hl : lv_has ls 2 [(0, .ref a0), (1, .int p0)] := hl
  have B : zB G A s.heap [zo a0 10 (.int 0 :: .ref a1 :: .int 0 :: .ref a2 :: .int 0 :: .ref a3 :: .ref a4 :: .ref a5 :: .ref a6 :: .ref a7 :: .int 0 :: .int 0 :: .int 0 :: .int 0 :: .int 0 :: .int 0 :: .int (-1) :: .int 0 :: .ref a8 :: .int 0 :: .int 0 :: .ref a9 :: .int 0 :: .int 0 :: .ref a10 :: .int 0 :: .int 0 :: .ref a11 :: .ref a12 :: .ref a13 :: .ref a14 :: .int 0 :: .int 0 :: .ref a15 :: .ref a16 :: .ref a17 :: .ref a18 :: .ref a19 :: .int 0 :: .ref a20 :: .ref a21 :: .int 0 :: .int 0 :: .ref a22 :: .ref a23 :: .ref a24 :: .ref a25 :: .ref a26 :: .int (-1) :: .ref a27 :: .ref a28 :: .ref a29 :: .ref a30 :: .ref a31 :: .ref a32 :: .ref a33 :: [])] s.heap [] := B
  refine lv_aload_n E.x E.b dX12_table_0 rfl (lv_at hl 0 rfl) ?_
  refine z_get E B z_inX12 (ci := 10) rfl 19 (by decide) t_1211 0 rfl rfl dX12_table_1 ?_
  refine lv_if_ne (tgt := 9) E.x E.b dX12_table_4 (by decide) (fun c => absurd (by decide +kernel) c) (fun _ => ?_)
  refine lv_iconst (v := (-1)) E.x E.b dX12_table_7 (by decide) ?_
  refine W.widen (k := 0) (n := 0) (Nat.le_of_ble_eq_true rfl) (Nat.le_of_ble_eq_true rfl) ?_
  exact z_iret E hr hlocks B (v := (-1)) rfl (fun t ht => z_q B [] (by decide) rfl ht) dX12_table_8
set_option maxHeartbeats 4000000 in
set_option maxRecDepth 100000 in
theorem c_X12_laid_221 (l : Launch) (G : zGT) (sz : Nat) (a0 a1 a2 a3 a4 a5 a6 a7 a8 a9 a10 a11 a12 a13 a14 a15 a16 a17 a18 a19 a20 a21 a22 a23 a24 a25 a26 a27 a28 a29 a30 a31 a32 a33 : Nat) (p0 : Int32) : Met l yX12_laid (.code yX12_laid cX12_laid 2 (some .int) :: zT) ({ frames := 0, cells := 0, slots := 0, locals := 64 }) (va_Pc [.ref a0, .int p0] (zPc G [zo a0 10 (.int 0 :: .ref a1 :: .int 0 :: .ref a2 :: .int 0 :: .ref a3 :: .ref a4 :: .ref a5 :: .ref a6 :: .ref a7 :: .int 0 :: .int 0 :: .int 0 :: .int 0 :: .int 0 :: .int 0 :: .int (-1) :: .int 0 :: .ref a8 :: .int 0 :: .int 0 :: .ref a9 :: .int 0 :: .int 0 :: .ref a10 :: .int 0 :: .int 0 :: .ref a11 :: .ref a12 :: .ref a13 :: .ref a14 :: .int 0 :: .int 0 :: .ref a15 :: .ref a16 :: .ref a17 :: .ref a18 :: .ref a19 :: .int 0 :: .ref a20 :: .ref a21 :: .int 0 :: .int 0 :: .ref a22 :: .ref a23 :: .ref a24 :: .ref a25 :: .ref a26 :: .int (-1) :: .ref a27 :: .ref a28 :: .ref a29 :: .ref a30 :: .ref a31 :: .ref a32 :: .ref a33 :: [])] sz)) ((fun A => va_Qi (fun (r : Int32) (_ : Unit) => r = (-1)) (fun (_ : Unit) t => zQ G [] A t) A) (va_A [zo a0 10 (.int 0 :: .ref a1 :: .int 0 :: .ref a2 :: .int 0 :: .ref a3 :: .ref a4 :: .ref a5 :: .ref a6 :: .ref a7 :: .int 0 :: .int 0 :: .int 0 :: .int 0 :: .int 0 :: .int 0 :: .int (-1) :: .int 0 :: .ref a8 :: .int 0 :: .int 0 :: .ref a9 :: .int 0 :: .int 0 :: .ref a10 :: .int 0 :: .int 0 :: .ref a11 :: .ref a12 :: .ref a13 :: .ref a14 :: .int 0 :: .int 0 :: .ref a15 :: .ref a16 :: .ref a17 :: .ref a18 :: .ref a19 :: .int 0 :: .ref a20 :: .ref a21 :: .int 0 :: .int 0 :: .ref a22 :: .ref a23 :: .ref a24 :: .ref a25 :: .ref a26 :: .int (-1) :: .ref a27 :: .ref a28 :: .ref a29 :: .ref a30 :: .ref a31 :: .ref a32 :: .ref a33 :: [])] sz)) 0 0 (va_A [zo a0 10 (.int 0 :: .ref a1 :: .int 0 :: .ref a2 :: .int 0 :: .ref a3 :: .ref a4 :: .ref a5 :: .ref a6 :: .ref a7 :: .int 0 :: .int 0 :: .int 0 :: .int 0 :: .int 0 :: .int 0 :: .int (-1) :: .int 0 :: .ref a8 :: .int 0 :: .int 0 :: .ref a9 :: .int 0 :: .int 0 :: .ref a10 :: .int 0 :: .int 0 :: .ref a11 :: .ref a12 :: .ref a13 :: .ref a14 :: .int 0 :: .int 0 :: .ref a15 :: .ref a16 :: .ref a17 :: .ref a18 :: .ref a19 :: .int 0 :: .ref a20 :: .ref a21 :: .int 0 :: .int 0 :: .ref a22 :: .ref a23 :: .ref a24 :: .ref a25 :: .ref a26 :: .int (-1) :: .ref a27 :: .ref a28 :: .ref a29 :: .ref a30 :: .ref a31 :: .ref a32 :: .ref a33 :: [])] sz) := by
  refine z_start (y := yX12_laid) (bytes := cX12_laid) (maxL := 2) (ret := (some .int)) (av := [.ref a0, .int p0]) (QA := (fun A => va_Qi (fun (r : Int32) (_ : Unit) => r = (-1)) (fun (_ : Unit) t => zQ G [] A t) A)) (by decide) ⟨Nat.le_of_ble_eq_true rfl, trivial⟩ ?_
  intro p e s m below meth c A ls E B hr hlocks hin hl
  have hl : lv_has ls 2 [(0, .ref a0), (1, .int p0)] := hl
  have B : zB G A s.heap [zo a0 10 (.int 0 :: .ref a1 :: .int 0 :: .ref a2 :: .int 0 :: .ref a3 :: .ref a4 :: .ref a5 :: .ref a6 :: .ref a7 :: .int 0 :: .int 0 :: .int 0 :: .int 0 :: .int 0 :: .int 0 :: .int (-1) :: .int 0 :: .ref a8 :: .int 0 :: .int 0 :: .ref a9 :: .int 0 :: .int 0 :: .ref a10 :: .int 0 :: .int 0 :: .ref a11 :: .ref a12 :: .ref a13 :: .ref a14 :: .int 0 :: .int 0 :: .ref a15 :: .ref a16 :: .ref a17 :: .ref a18 :: .ref a19 :: .int 0 :: .ref a20 :: .ref a21 :: .int 0 :: .int 0 :: .ref a22 :: .ref a23 :: .ref a24 :: .ref a25 :: .ref a26 :: .int (-1) :: .ref a27 :: .ref a28 :: .ref a29 :: .ref a30 :: .ref a31 :: .ref a32 :: .ref a33 :: [])] s.heap [] := B
  refine lv_aload_n E.x E.b dX12_laid_0 rfl (lv_at hl 0 rfl) ?_
  refine z_get E B z_inX12 (ci := 10) rfl 19 (by decide) t_1211 0 rfl rfl dX12_laid_1 ?_
  refine lv_if_eq (tgt := 23) E.x E.b dX12_laid_4 (by decide) (fun _ => ?_) (fun c => absurd (by decide +kernel) c)
  refine lv_iconst (v := (-1)) E.x E.b dX12_laid_23 (by decide) ?_
  refine W.widen (k := 0) (n := 0) (Nat.le_of_ble_eq_true rfl) (Nat.le_of_ble_eq_true rfl) ?_
  exact z_iret E hr hlocks B (v := (-1)) rfl (fun t ht => z_q B [] (by decide) rfl ht) dX12_laid_24
set_option maxHeartbeats 4000000 in
set_option maxRecDepth 100000 in
theorem c_X12_off_222 (l : Launch) (G : zGT) (sz : Nat) (a0 a1 a2 a3 a4 a5 a6 a7 a8 a9 a10 a11 a12 a13 a14 a15 a16 a17 a18 a19 a20 a21 a22 a23 a24 a25 a26 a27 a28 a29 a30 a31 a32 a33 : Nat) (p0 : Int32) : Met l yX12_off (.code yX12_off cX12_off 3 (some .int) :: zT) ({ frames := 1, cells := 0, slots := 0, locals := 86 }) (va_Pc [.ref a0, .int p0] (zPc G [zo a0 10 (.int 0 :: .ref a2 :: .int 0 :: .ref a3 :: .int 0 :: .ref a4 :: .ref a5 :: .ref a6 :: .ref a7 :: .ref a8 :: .int 0 :: .int 0 :: .int 0 :: .int 0 :: .int 0 :: .int 0 :: .int (-1) :: .int 0 :: .ref a9 :: .int 0 :: .int 0 :: .ref a10 :: .int 0 :: .int 0 :: .ref a11 :: .int 0 :: .int 0 :: .ref a12 :: .ref a13 :: .ref a14 :: .ref a15 :: .int 0 :: .int 0 :: .ref a16 :: .ref a1 :: .ref a17 :: .ref a18 :: .ref a19 :: .int 0 :: .ref a20 :: .ref a21 :: .int 0 :: .int 0 :: .ref a22 :: .ref a23 :: .ref a24 :: .ref a25 :: .ref a26 :: .int (-1) :: .ref a27 :: .ref a28 :: .ref a29 :: .ref a30 :: .ref a31 :: .ref a32 :: .ref a33 :: []), zz G a1 3 (fun _ => 0)] sz)) ((fun A => va_Qi (fun (r : Int32) (_ : Unit) => r = (-1)) (fun (_ : Unit) t => zQ G [] A t) A) (va_A [zo a0 10 (.int 0 :: .ref a2 :: .int 0 :: .ref a3 :: .int 0 :: .ref a4 :: .ref a5 :: .ref a6 :: .ref a7 :: .ref a8 :: .int 0 :: .int 0 :: .int 0 :: .int 0 :: .int 0 :: .int 0 :: .int (-1) :: .int 0 :: .ref a9 :: .int 0 :: .int 0 :: .ref a10 :: .int 0 :: .int 0 :: .ref a11 :: .int 0 :: .int 0 :: .ref a12 :: .ref a13 :: .ref a14 :: .ref a15 :: .int 0 :: .int 0 :: .ref a16 :: .ref a1 :: .ref a17 :: .ref a18 :: .ref a19 :: .int 0 :: .ref a20 :: .ref a21 :: .int 0 :: .int 0 :: .ref a22 :: .ref a23 :: .ref a24 :: .ref a25 :: .ref a26 :: .int (-1) :: .ref a27 :: .ref a28 :: .ref a29 :: .ref a30 :: .ref a31 :: .ref a32 :: .ref a33 :: []), zz G a1 3 (fun _ => 0)] sz)) 0 0 (va_A [zo a0 10 (.int 0 :: .ref a2 :: .int 0 :: .ref a3 :: .int 0 :: .ref a4 :: .ref a5 :: .ref a6 :: .ref a7 :: .ref a8 :: .int 0 :: .int 0 :: .int 0 :: .int 0 :: .int 0 :: .int 0 :: .int (-1) :: .int 0 :: .ref a9 :: .int 0 :: .int 0 :: .ref a10 :: .int 0 :: .int 0 :: .ref a11 :: .int 0 :: .int 0 :: .ref a12 :: .ref a13 :: .ref a14 :: .ref a15 :: .int 0 :: .int 0 :: .ref a16 :: .ref a1 :: .ref a17 :: .ref a18 :: .ref a19 :: .int 0 :: .ref a20 :: .ref a21 :: .int 0 :: .int 0 :: .ref a22 :: .ref a23 :: .ref a24 :: .ref a25 :: .ref a26 :: .int (-1) :: .ref a27 :: .ref a28 :: .ref a29 :: .ref a30 :: .ref a31 :: .ref a32 :: .ref a33 :: []), zz G a1 3 (fun _ => 0)] sz) := by
  refine z_start (y := yX12_off) (bytes := cX12_off) (maxL := 3) (ret := (some .int)) (av := [.ref a0, .int p0]) (QA := (fun A => va_Qi (fun (r : Int32) (_ : Unit) => r = (-1)) (fun (_ : Unit) t => zQ G [] A t) A)) (by decide) ⟨Nat.le_of_ble_eq_true rfl, trivial⟩ ?_
  intro p e s m below meth c A ls E B hr hlocks hin hl
  have hl : lv_has ls 3 [(0, .ref a0), (1, .int p0)] := hl
  have B : zB G A s.heap [zo a0 10 (.int 0 :: .ref a2 :: .int 0 :: .ref a3 :: .int 0 :: .ref a4 :: .ref a5 :: .ref a6 :: .ref a7 :: .ref a8 :: .int 0 :: .int 0 :: .int 0 :: .int 0 :: .int 0 :: .int 0 :: .int (-1) :: .int 0 :: .ref a9 :: .int 0 :: .int 0 :: .ref a10 :: .int 0 :: .int 0 :: .ref a11 :: .int 0 :: .int 0 :: .ref a12 :: .ref a13 :: .ref a14 :: .ref a15 :: .int 0 :: .int 0 :: .ref a16 :: .ref a1 :: .ref a17 :: .ref a18 :: .ref a19 :: .int 0 :: .ref a20 :: .ref a21 :: .int 0 :: .int 0 :: .ref a22 :: .ref a23 :: .ref a24 :: .ref a25 :: .ref a26 :: .int (-1) :: .ref a27 :: .ref a28 :: .ref a29 :: .ref a30 :: .ref a31 :: .ref a32 :: .ref a33 :: []), zz G a1 3 (fun _ => 0)] s.heap [] := B
  refine lv_iload_n E.x E.b dX12_off_0 rfl (lv_at hl 1 rfl) ?_
  refine lv_iconst (v := 0) E.x E.b dX12_off_1 (by decide) ?_
  refine lv_iconst (v := 2) E.x E.b dX12_off_2 (by decide) ?_
  refine z_calli E B (wc := []) (wr := [zo a0 10 (.int 0 :: .ref a2 :: .int 0 :: .ref a3 :: .int 0 :: .ref a4 :: .ref a5 :: .ref a6 :: .ref a7 :: .ref a8 :: .int 0 :: .int 0 :: .int 0 :: .int 0 :: .int 0 :: .int 0 :: .int (-1) :: .int 0 :: .ref a9 :: .int 0 :: .int 0 :: .ref a10 :: .int 0 :: .int 0 :: .ref a11 :: .int 0 :: .int 0 :: .ref a12 :: .ref a13 :: .ref a14 :: .ref a15 :: .int 0 :: .int 0 :: .ref a16 :: .ref a1 :: .ref a17 :: .ref a18 :: .ref a19 :: .int 0 :: .ref a20 :: .ref a21 :: .int 0 :: .int 0 :: .ref a22 :: .ref a23 :: .ref a24 :: .ref a25 :: .ref a26 :: .int (-1) :: .ref a27 :: .ref a28 :: .ref a29 :: .ref a30 :: .ref a31 :: .ref a32 :: .ref a33 :: []), zz G a1 3 (fun _ => 0)]) [] [0, 1] rfl rfl (by decide) (by decide) (z_runS E B (As := [.int p0, .int 0, .int 2]) (rest := []) [] rfl (by decide) ms_X12_in t_1439 (c_X12_in_218 l G _ p0) rfl rfl ⟨Nat.le_of_ble_eq_true rfl, Nat.le_of_ble_eq_true rfl⟩ rfl hl.1 rfl (Nat.le_of_ble_eq_true rfl) dX12_off_3 ⟨(Nat.le_of_ble_eq_true rfl), (Nat.le_of_ble_eq_true rfl)⟩) (fun r t H locs hp hB J => ?_)
  have hq := hB
  have B := J _ hq
  have B : zB G A s.heap [zo a0 10 (.int 0 :: .ref a2 :: .int 0 :: .ref a3 :: .int 0 :: .ref a4 :: .ref a5 :: .ref a6 :: .ref a7 :: .ref a8 :: .int 0 :: .int 0 :: .int 0 :: .int 0 :: .int 0 :: .int 0 :: .int (-1) :: .int 0 :: .ref a9 :: .int 0 :: .int 0 :: .ref a10 :: .int 0 :: .int 0 :: .ref a11 :: .int 0 :: .int 0 :: .ref a12 :: .ref a13 :: .ref a14 :: .ref a15 :: .int 0 :: .int 0 :: .ref a16 :: .ref a1 :: .ref a17 :: .ref a18 :: .ref a19 :: .int 0 :: .ref a20 :: .ref a21 :: .int 0 :: .int 0 :: .ref a22 :: .ref a23 :: .ref a24 :: .ref a25 :: .ref a26 :: .int (-1) :: .ref a27 :: .ref a28 :: .ref a29 :: .ref a30 :: .ref a31 :: .ref a32 :: .ref a33 :: []), zz G a1 3 (fun _ => 0)] _ _ := B
  rcases hp with ⟨c_1, rfl⟩ | ⟨c_2, rfl⟩ | ⟨c_3, c_4, rfl⟩
  · skip
    refine lv_if_eq (tgt := 26) E.x E.b dX12_off_6 (by decide) (fun _ => ?_) (fun c => absurd (by decide +kernel) c)
    refine lv_iconst (v := (-1)) E.x E.b dX12_off_26 (by decide) ?_
    refine W.widen (k := 0) (n := 0) (Nat.le_of_ble_eq_true rfl) (Nat.le_of_ble_eq_true rfl) ?_
    exact z_iret E hr hlocks B (v := (-1)) rfl (fun t ht => z_q B [] (by decide) rfl ht) dX12_off_27
  · skip
    refine lv_if_eq (tgt := 26) E.x E.b dX12_off_6 (by decide) (fun _ => ?_) (fun c => absurd (by decide +kernel) c)
    refine lv_iconst (v := (-1)) E.x E.b dX12_off_26 (by decide) ?_
    refine W.widen (k := 0) (n := 0) (Nat.le_of_ble_eq_true rfl) (Nat.le_of_ble_eq_true rfl) ?_
    exact z_iret E hr hlocks B (v := (-1)) rfl (fun t ht => z_q B [] (by decide) rfl ht) dX12_off_27
  · skip
    refine lv_if_eq (tgt := 26) E.x E.b dX12_off_6 (by decide) (fun c => absurd c (by decide +kernel)) (fun _ => ?_)
    refine lv_aload_n E.x E.b dX12_off_9 rfl (lv_at hl 0 rfl) ?_
    refine z_get E B z_inX12 (ci := 10) rfl 34 (by decide) t_1226 0 rfl rfl dX12_off_10 ?_
    refine lv_iload_n E.x E.b dX12_off_13 rfl (lv_at hl 1 rfl) ?_
    by_cases e_5 : p0 = 0
    · subst e_5
      refine z_zald E B 1 rfl (show ¬ ((0 : Int32) < 0 ∨ 3 ≤ (0 : Int32).toNatClampNeg) by decide +kernel) dX12_off_14 (z_topi 0 rfl ?_)
      refine lv_if_eq (tgt := 26) E.x E.b dX12_off_15 (by decide) (fun _ => ?_) (fun c => absurd (by decide +kernel) c)
      refine lv_iconst (v := (-1)) E.x E.b dX12_off_26 (by decide) ?_
      refine W.widen (k := 0) (n := 0) (Nat.le_of_ble_eq_true rfl) (Nat.le_of_ble_eq_true rfl) ?_
      exact z_iret E hr hlocks B (v := (-1)) rfl (fun t ht => z_q B [] (by decide) rfl ht) dX12_off_27
    · have e_5m : ¬ p0.toInt = 0 := zi_ne e_5
      by_cases e_6 : p0 = 1
      · subst e_6
        refine z_zald E B 1 rfl (show ¬ ((1 : Int32) < 0 ∨ 3 ≤ (1 : Int32).toNatClampNeg) by decide +kernel) dX12_off_14 (z_topi 0 rfl ?_)
        refine lv_if_eq (tgt := 26) E.x E.b dX12_off_15 (by decide) (fun _ => ?_) (fun c => absurd (by decide +kernel) c)
        refine lv_iconst (v := (-1)) E.x E.b dX12_off_26 (by decide) ?_
        refine W.widen (k := 0) (n := 0) (Nat.le_of_ble_eq_true rfl) (Nat.le_of_ble_eq_true rfl) ?_
        exact z_iret E hr hlocks B (v := (-1)) rfl (fun t ht => z_q B [] (by decide) rfl ht) dX12_off_27
      · have e_6m : ¬ p0.toInt = 1 := zi_ne e_6
        by_cases e_7 : p0 = 2
        · subst e_7
          refine z_zald E B 1 rfl (show ¬ ((2 : Int32) < 0 ∨ 3 ≤ (2 : Int32).toNatClampNeg) by decide +kernel) dX12_off_14 (z_topi 0 rfl ?_)
          refine lv_if_eq (tgt := 26) E.x E.b dX12_off_15 (by decide) (fun _ => ?_) (fun c => absurd (by decide +kernel) c)
          refine lv_iconst (v := (-1)) E.x E.b dX12_off_26 (by decide) ?_
          refine W.widen (k := 0) (n := 0) (Nat.le_of_ble_eq_true rfl) (Nat.le_of_ble_eq_true rfl) ?_
          exact z_iret E hr hlocks B (v := (-1)) rfl (fun t ht => z_q B [] (by decide) rfl ht) dX12_off_27
        · exfalso
          have e_7n := zi_ne e_7
          have e_7m : ¬ p0.toInt = 2 := e_7n
          omega
set_option maxHeartbeats 4000000 in
set_option maxRecDepth 100000 in
theorem c_X12_hold_223 (l : Launch) (G : zGT) (sz : Nat) (a0 a1 a2 a3 a4 a5 a6 a7 a8 a9 a10 a11 a12 a13 a14 a15 a16 a17 a18 a19 a20 a21 a22 a23 a24 a25 a26 a27 a28 a29 a30 a31 a32 a33 : Nat) (p0 : Int32) : Met l yX12_hold (.code yX12_hold cX12_hold 3 (some .boolean) :: zT) ({ frames := 1, cells := 0, slots := 0, locals := 86 }) (va_Pc [.ref a0, .int p0] (zPc G [zo a0 10 (.int 0 :: .ref a4 :: .int 0 :: .ref a5 :: .int 0 :: .ref a6 :: .ref a7 :: .ref a8 :: .ref a9 :: .ref a10 :: .int 0 :: .int 0 :: .int 0 :: .int 0 :: .int 0 :: .int 0 :: .int (-1) :: .int 0 :: .ref a11 :: .int 0 :: .int 0 :: .ref a12 :: .int 0 :: .int 0 :: .ref a13 :: .int 0 :: .int 0 :: .ref a14 :: .ref a1 :: .ref a15 :: .ref a16 :: .int 0 :: .int 0 :: .ref a2 :: .ref a3 :: .ref a17 :: .ref a18 :: .ref a19 :: .int 0 :: .ref a20 :: .ref a21 :: .int 0 :: .int 0 :: .ref a22 :: .ref a23 :: .ref a24 :: .ref a25 :: .ref a26 :: .int (-1) :: .ref a27 :: .ref a28 :: .ref a29 :: .ref a30 :: .ref a31 :: .ref a32 :: .ref a33 :: []), zi G a1 49 (fun _ => 0), zi G a2 147 (fun _ => 0), zz G a3 3 (fun _ => 0)] sz)) ((fun A => va_Qi (fun (r : Int32) (_ : Unit) => (p0.toInt ≤ (-1) ∧ r = 0) ∨ (3 ≤ p0.toInt ∧ r = 0) ∨ (p0.toInt = 0 ∧ r = 1) ∨ (p0.toInt = 1 ∧ r = 1) ∨ (p0.toInt = 2 ∧ r = 1)) (fun (_ : Unit) t => zQ G [] A t) A) (va_A [zo a0 10 (.int 0 :: .ref a4 :: .int 0 :: .ref a5 :: .int 0 :: .ref a6 :: .ref a7 :: .ref a8 :: .ref a9 :: .ref a10 :: .int 0 :: .int 0 :: .int 0 :: .int 0 :: .int 0 :: .int 0 :: .int (-1) :: .int 0 :: .ref a11 :: .int 0 :: .int 0 :: .ref a12 :: .int 0 :: .int 0 :: .ref a13 :: .int 0 :: .int 0 :: .ref a14 :: .ref a1 :: .ref a15 :: .ref a16 :: .int 0 :: .int 0 :: .ref a2 :: .ref a3 :: .ref a17 :: .ref a18 :: .ref a19 :: .int 0 :: .ref a20 :: .ref a21 :: .int 0 :: .int 0 :: .ref a22 :: .ref a23 :: .ref a24 :: .ref a25 :: .ref a26 :: .int (-1) :: .ref a27 :: .ref a28 :: .ref a29 :: .ref a30 :: .ref a31 :: .ref a32 :: .ref a33 :: []), zi G a1 49 (fun _ => 0), zi G a2 147 (fun _ => 0), zz G a3 3 (fun _ => 0)] sz)) 0 0 (va_A [zo a0 10 (.int 0 :: .ref a4 :: .int 0 :: .ref a5 :: .int 0 :: .ref a6 :: .ref a7 :: .ref a8 :: .ref a9 :: .ref a10 :: .int 0 :: .int 0 :: .int 0 :: .int 0 :: .int 0 :: .int 0 :: .int (-1) :: .int 0 :: .ref a11 :: .int 0 :: .int 0 :: .ref a12 :: .int 0 :: .int 0 :: .ref a13 :: .int 0 :: .int 0 :: .ref a14 :: .ref a1 :: .ref a15 :: .ref a16 :: .int 0 :: .int 0 :: .ref a2 :: .ref a3 :: .ref a17 :: .ref a18 :: .ref a19 :: .int 0 :: .ref a20 :: .ref a21 :: .int 0 :: .int 0 :: .ref a22 :: .ref a23 :: .ref a24 :: .ref a25 :: .ref a26 :: .int (-1) :: .ref a27 :: .ref a28 :: .ref a29 :: .ref a30 :: .ref a31 :: .ref a32 :: .ref a33 :: []), zi G a1 49 (fun _ => 0), zi G a2 147 (fun _ => 0), zz G a3 3 (fun _ => 0)] sz) := by
  refine z_start (y := yX12_hold) (bytes := cX12_hold) (maxL := 3) (ret := (some .boolean)) (av := [.ref a0, .int p0]) (QA := (fun A => va_Qi (fun (r : Int32) (_ : Unit) => (p0.toInt ≤ (-1) ∧ r = 0) ∨ (3 ≤ p0.toInt ∧ r = 0) ∨ (p0.toInt = 0 ∧ r = 1) ∨ (p0.toInt = 1 ∧ r = 1) ∨ (p0.toInt = 2 ∧ r = 1)) (fun (_ : Unit) t => zQ G [] A t) A)) (by decide) ⟨Nat.le_of_ble_eq_true rfl, trivial⟩ ?_
  intro p e s m below meth c A ls E B hr hlocks hin hl
  have hl : lv_has ls 3 [(0, .ref a0), (1, .int p0)] := hl
  have B : zB G A s.heap [zo a0 10 (.int 0 :: .ref a4 :: .int 0 :: .ref a5 :: .int 0 :: .ref a6 :: .ref a7 :: .ref a8 :: .ref a9 :: .ref a10 :: .int 0 :: .int 0 :: .int 0 :: .int 0 :: .int 0 :: .int 0 :: .int (-1) :: .int 0 :: .ref a11 :: .int 0 :: .int 0 :: .ref a12 :: .int 0 :: .int 0 :: .ref a13 :: .int 0 :: .int 0 :: .ref a14 :: .ref a1 :: .ref a15 :: .ref a16 :: .int 0 :: .int 0 :: .ref a2 :: .ref a3 :: .ref a17 :: .ref a18 :: .ref a19 :: .int 0 :: .ref a20 :: .ref a21 :: .int 0 :: .int 0 :: .ref a22 :: .ref a23 :: .ref a24 :: .ref a25 :: .ref a26 :: .int (-1) :: .ref a27 :: .ref a28 :: .ref a29 :: .ref a30 :: .ref a31 :: .ref a32 :: .ref a33 :: []), zi G a1 49 (fun _ => 0), zi G a2 147 (fun _ => 0), zz G a3 3 (fun _ => 0)] s.heap [] := B
  refine lv_iload_n E.x E.b dX12_hold_0 rfl (lv_at hl 1 rfl) ?_
  refine lv_iconst (v := 0) E.x E.b dX12_hold_1 (by decide) ?_
  refine lv_iconst (v := 2) E.x E.b dX12_hold_2 (by decide) ?_
  refine z_calli E B (wc := []) (wr := [zo a0 10 (.int 0 :: .ref a4 :: .int 0 :: .ref a5 :: .int 0 :: .ref a6 :: .ref a7 :: .ref a8 :: .ref a9 :: .ref a10 :: .int 0 :: .int 0 :: .int 0 :: .int 0 :: .int 0 :: .int 0 :: .int (-1) :: .int 0 :: .ref a11 :: .int 0 :: .int 0 :: .ref a12 :: .int 0 :: .int 0 :: .ref a13 :: .int 0 :: .int 0 :: .ref a14 :: .ref a1 :: .ref a15 :: .ref a16 :: .int 0 :: .int 0 :: .ref a2 :: .ref a3 :: .ref a17 :: .ref a18 :: .ref a19 :: .int 0 :: .ref a20 :: .ref a21 :: .int 0 :: .int 0 :: .ref a22 :: .ref a23 :: .ref a24 :: .ref a25 :: .ref a26 :: .int (-1) :: .ref a27 :: .ref a28 :: .ref a29 :: .ref a30 :: .ref a31 :: .ref a32 :: .ref a33 :: []), zi G a1 49 (fun _ => 0), zi G a2 147 (fun _ => 0), zz G a3 3 (fun _ => 0)]) [] [0, 1, 2, 3] rfl rfl (by decide) (by decide) (z_runS E B (As := [.int p0, .int 0, .int 2]) (rest := []) [] rfl (by decide) ms_X12_in t_1439 (c_X12_in_218 l G _ p0) rfl rfl ⟨Nat.le_of_ble_eq_true rfl, Nat.le_of_ble_eq_true rfl⟩ rfl hl.1 rfl (Nat.le_of_ble_eq_true rfl) dX12_hold_3 ⟨(Nat.le_of_ble_eq_true rfl), (Nat.le_of_ble_eq_true rfl)⟩) (fun r t H locs hp hB J => ?_)
  have hq := hB
  have B := J _ hq
  have B : zB G A s.heap [zo a0 10 (.int 0 :: .ref a4 :: .int 0 :: .ref a5 :: .int 0 :: .ref a6 :: .ref a7 :: .ref a8 :: .ref a9 :: .ref a10 :: .int 0 :: .int 0 :: .int 0 :: .int 0 :: .int 0 :: .int 0 :: .int (-1) :: .int 0 :: .ref a11 :: .int 0 :: .int 0 :: .ref a12 :: .int 0 :: .int 0 :: .ref a13 :: .int 0 :: .int 0 :: .ref a14 :: .ref a1 :: .ref a15 :: .ref a16 :: .int 0 :: .int 0 :: .ref a2 :: .ref a3 :: .ref a17 :: .ref a18 :: .ref a19 :: .int 0 :: .ref a20 :: .ref a21 :: .int 0 :: .int 0 :: .ref a22 :: .ref a23 :: .ref a24 :: .ref a25 :: .ref a26 :: .int (-1) :: .ref a27 :: .ref a28 :: .ref a29 :: .ref a30 :: .ref a31 :: .ref a32 :: .ref a33 :: []), zi G a1 49 (fun _ => 0), zi G a2 147 (fun _ => 0), zz G a3 3 (fun _ => 0)] _ _ := B
  rcases hp with ⟨c_1, rfl⟩ | ⟨c_2, rfl⟩ | ⟨c_3, c_4, rfl⟩
  · skip
    refine lv_if_ne (tgt := 11) E.x E.b dX12_hold_6 (by decide) (fun c => absurd (by decide +kernel) c) (fun _ => ?_)
    refine lv_iconst (v := 0) E.x E.b dX12_hold_9 (by decide) ?_
    refine W.widen (k := 0) (n := 0) (Nat.le_of_ble_eq_true rfl) (Nat.le_of_ble_eq_true rfl) ?_
    exact z_zret E hr hlocks B (v := 0) rfl (Or.inl ⟨(by first | decide | omega), rfl⟩) (fun t ht => z_q B [] (by decide) rfl ht) dX12_hold_10
  · skip
    refine lv_if_ne (tgt := 11) E.x E.b dX12_hold_6 (by decide) (fun c => absurd (by decide +kernel) c) (fun _ => ?_)
    refine lv_iconst (v := 0) E.x E.b dX12_hold_9 (by decide) ?_
    refine W.widen (k := 0) (n := 0) (Nat.le_of_ble_eq_true rfl) (Nat.le_of_ble_eq_true rfl) ?_
    exact z_zret E hr hlocks B (v := 0) rfl (Or.inr (Or.inl ⟨(by first | decide | omega), rfl⟩)) (fun t ht => z_q B [] (by decide) rfl ht) dX12_hold_10
  · skip
    refine lv_if_ne (tgt := 11) E.x E.b dX12_hold_6 (by decide) (fun _ => ?_) (fun c => absurd c (by decide +kernel))
    refine lv_iconst (v := 0) E.x E.b dX12_hold_11 (by decide) ?_
    refine lv_istore_n (lv' := [(2, .int 0), (0, .ref a0), (1, .int p0)]) E.x E.b dX12_hold_12 rfl hl (by decide) rfl (fun ls hl => ?_)
    by_cases e_5 : p0 = 0
    · subst e_5
      refine z_loop 49 (fun _ => 0) (fun _ => 0) (fun i H locs ls => (zB G A s.heap [zo a0 10 (.int 0 :: .ref a4 :: .int 0 :: .ref a5 :: .int 0 :: .ref a6 :: .ref a7 :: .ref a8 :: .ref a9 :: .ref a10 :: .int 0 :: .int 0 :: .int 0 :: .int 0 :: .int 0 :: .int 0 :: .int (-1) :: .int 0 :: .ref a11 :: .int 0 :: .int 0 :: .ref a12 :: .int 0 :: .int 0 :: .ref a13 :: .int 0 :: .int 0 :: .ref a14 :: .ref a1 :: .ref a15 :: .ref a16 :: .int 0 :: .int 0 :: .ref a2 :: .ref a3 :: .ref a17 :: .ref a18 :: .ref a19 :: .int 0 :: .ref a20 :: .ref a21 :: .int 0 :: .int 0 :: .ref a22 :: .ref a23 :: .ref a24 :: .ref a25 :: .ref a26 :: .int (-1) :: .ref a27 :: .ref a28 :: .ref a29 :: .ref a30 :: .ref a31 :: .ref a32 :: .ref a33 :: []), zi G a1 49 (fun _ => 0), zi G a2 147 (fun _ => 0), zz G a3 3 (fun _ => 0)] H locs) ∧ lv_has ls 3 [(2, .int (nI i)), (0, .ref a0), (1, .int 0)]) (Nat.le_of_ble_eq_true rfl) (Nat.le_of_ble_eq_true rfl) ⟨B, hl⟩ (fun i6 H locs ls hi ih hI => ?_) (fun H locs ls hI => ?_)
      · obtain ⟨B, hl⟩ := hI
        have hl : lv_has ls 3 [(2, .int (nI i6)), (0, .ref a0), (1, .int 0)] := hl
        have hii : (nI i6).toInt = ((i6 : Nat) : Int) := nI_toInt (by omega)
        refine lv_iload_n E.x E.b dX12_hold_13 rfl (lv_at hl 0 rfl) ?_
        refine lv_bipush (v := 49) E.x E.b dX12_hold_14 (by decide) ?_
        refine lv_icmp_ge (tgt := 42) E.x E.b dX12_hold_16 (by decide) (fun c_7 => ?_) (fun c_7 => ?_)
        · have c_7f : 49 ≤ (nI i6).toInt := zi_le c_7
          exfalso; omega
        · have c_7f : (nI i6).toInt < 49 := zi_nle c_7
          refine lv_aload_n E.x E.b dX12_hold_19 rfl (lv_at hl 1 rfl) ?_
          refine z_get E B z_inX12 (ci := 10) rfl 33 (by decide) t_1225 0 rfl rfl dX12_hold_20 ?_
          refine lv_bipush (v := 49) E.x E.b dX12_hold_23 (by decide) ?_
          refine lv_iload_n E.x E.b dX12_hold_25 rfl (lv_at hl 2 rfl) ?_
          refine lv_imul E.x E.b dX12_hold_26 (z_topi 0 (by decide +kernel) ?_)
          refine lv_iload_n E.x E.b dX12_hold_27 rfl (lv_at hl 0 rfl) ?_
          refine lv_iadd E.x E.b dX12_hold_28 (z_topi (nI (0 + i6)) (nI_add 0 (i6)) ?_)
          refine lv_aload_n E.x E.b dX12_hold_29 rfl (lv_at hl 1 rfl) ?_
          refine z_get E B z_inX12 (ci := 10) rfl 28 (by decide) t_1220 0 rfl rfl dX12_hold_30 ?_
          refine lv_iload_n E.x E.b dX12_hold_33 rfl (lv_at hl 0 rfl) ?_
          refine z_iald E B 1 rfl (vp_in_nI (by omega) (by decide)) dX12_hold_34 (z_topi 0 rfl ?_)
          refine z_iast0 E B 2 rfl (vp_in_nI (by omega) (by decide)) dX12_hold_35 (fun H locs B => ?_)
          have B : zB G A s.heap [zo a0 10 (.int 0 :: .ref a4 :: .int 0 :: .ref a5 :: .int 0 :: .ref a6 :: .ref a7 :: .ref a8 :: .ref a9 :: .ref a10 :: .int 0 :: .int 0 :: .int 0 :: .int 0 :: .int 0 :: .int 0 :: .int (-1) :: .int 0 :: .ref a11 :: .int 0 :: .int 0 :: .ref a12 :: .int 0 :: .int 0 :: .ref a13 :: .int 0 :: .int 0 :: .ref a14 :: .ref a1 :: .ref a15 :: .ref a16 :: .int 0 :: .int 0 :: .ref a2 :: .ref a3 :: .ref a17 :: .ref a18 :: .ref a19 :: .int 0 :: .ref a20 :: .ref a21 :: .int 0 :: .int 0 :: .ref a22 :: .ref a23 :: .ref a24 :: .ref a25 :: .ref a26 :: .int (-1) :: .ref a27 :: .ref a28 :: .ref a29 :: .ref a30 :: .ref a31 :: .ref a32 :: .ref a33 :: []), zi G a1 49 (fun _ => 0), zi G a2 147 (fun _ => 0), zz G a3 3 (fun _ => 0)] _ _ := B
          refine lv_iinc (v := (nI (i6 + 1))) (lv' := [(2, .int (nI (i6 + 1))), (0, .ref a0), (1, .int 0)]) E.x E.b dX12_hold_36 hl (k := 0) rfl (nI_1 _) (by decide) rfl (fun ls hl => ?_)
          refine lv_goto (tgt := 13) E.x E.b dX12_hold_39 (by decide) ?_
          exact ih _ _ _ ⟨B, lv_sub hl [0, 1, 2] rfl⟩
      · obtain ⟨B, hl⟩ := hI
        have hl : lv_has ls 3 [(2, .int 49), (0, .ref a0), (1, .int 0)] := hl
        refine lv_iload_n E.x E.b dX12_hold_13 rfl (lv_at hl 0 rfl) ?_
        refine lv_bipush (v := 49) E.x E.b dX12_hold_14 (by decide) ?_
        refine lv_icmp_ge (tgt := 42) E.x E.b dX12_hold_16 (by decide) (fun _ => ?_) (fun c => absurd (by decide +kernel) c)
        refine lv_aload_n E.x E.b dX12_hold_42 rfl (lv_at hl 1 rfl) ?_
        refine z_get E B z_inX12 (ci := 10) rfl 34 (by decide) t_1226 0 rfl rfl dX12_hold_43 ?_
        refine lv_iload_n E.x E.b dX12_hold_46 rfl (lv_at hl 2 rfl) ?_
        refine lv_iconst (v := 1) E.x E.b dX12_hold_47 (by decide) ?_
        refine z_zast E B 3 rfl (show ¬ ((0 : Int32) < 0 ∨ 3 ≤ (0 : Int32).toNatClampNeg) by decide +kernel) dX12_hold_48 (fun H locs B => ?_)
        obtain ⟨g_8, B⟩ : ∃ g_8 : Nat → Int32, zB G A s.heap [zo a0 10 (.int 0 :: .ref a4 :: .int 0 :: .ref a5 :: .int 0 :: .ref a6 :: .ref a7 :: .ref a8 :: .ref a9 :: .ref a10 :: .int 0 :: .int 0 :: .int 0 :: .int 0 :: .int 0 :: .int 0 :: .int (-1) :: .int 0 :: .ref a11 :: .int 0 :: .int 0 :: .ref a12 :: .int 0 :: .int 0 :: .ref a13 :: .int 0 :: .int 0 :: .ref a14 :: .ref a1 :: .ref a15 :: .ref a16 :: .int 0 :: .int 0 :: .ref a2 :: .ref a3 :: .ref a17 :: .ref a18 :: .ref a19 :: .int 0 :: .ref a20 :: .ref a21 :: .int 0 :: .int 0 :: .ref a22 :: .ref a23 :: .ref a24 :: .ref a25 :: .ref a26 :: .int (-1) :: .ref a27 :: .ref a28 :: .ref a29 :: .ref a30 :: .ref a31 :: .ref a32 :: .ref a33 :: []), zi G a1 49 (fun _ => 0), zi G a2 147 (fun _ => 0), zz G a3 3 g_8] _ _ := ⟨_, B⟩
        have B : zB G A s.heap [zo a0 10 (.int 0 :: .ref a4 :: .int 0 :: .ref a5 :: .int 0 :: .ref a6 :: .ref a7 :: .ref a8 :: .ref a9 :: .ref a10 :: .int 0 :: .int 0 :: .int 0 :: .int 0 :: .int 0 :: .int 0 :: .int (-1) :: .int 0 :: .ref a11 :: .int 0 :: .int 0 :: .ref a12 :: .int 0 :: .int 0 :: .ref a13 :: .int 0 :: .int 0 :: .ref a14 :: .ref a1 :: .ref a15 :: .ref a16 :: .int 0 :: .int 0 :: .ref a2 :: .ref a3 :: .ref a17 :: .ref a18 :: .ref a19 :: .int 0 :: .ref a20 :: .ref a21 :: .int 0 :: .int 0 :: .ref a22 :: .ref a23 :: .ref a24 :: .ref a25 :: .ref a26 :: .int (-1) :: .ref a27 :: .ref a28 :: .ref a29 :: .ref a30 :: .ref a31 :: .ref a32 :: .ref a33 :: []), zi G a1 49 (fun _ => 0), zi G a2 147 (fun _ => 0), zz G a3 3 g_8] _ _ := B
        refine lv_iconst (v := 1) E.x E.b dX12_hold_49 (by decide) ?_
        refine W.widen (k := 0) (n := 0) (Nat.le_of_ble_eq_true rfl) (Nat.le_of_ble_eq_true rfl) ?_
        exact z_zret E hr hlocks B (v := 1) rfl (Or.inr (Or.inr (Or.inl ⟨(by first | decide | omega), rfl⟩))) (fun t ht => z_q B [] (by decide) rfl ht) dX12_hold_50
    · have e_5m : ¬ p0.toInt = 0 := zi_ne e_5
      by_cases e_9 : p0 = 1
      · subst e_9
        refine z_loop 49 (fun _ => 0) (fun _ => 0) (fun i H locs ls => (zB G A s.heap [zo a0 10 (.int 0 :: .ref a4 :: .int 0 :: .ref a5 :: .int 0 :: .ref a6 :: .ref a7 :: .ref a8 :: .ref a9 :: .ref a10 :: .int 0 :: .int 0 :: .int 0 :: .int 0 :: .int 0 :: .int 0 :: .int (-1) :: .int 0 :: .ref a11 :: .int 0 :: .int 0 :: .ref a12 :: .int 0 :: .int 0 :: .ref a13 :: .int 0 :: .int 0 :: .ref a14 :: .ref a1 :: .ref a15 :: .ref a16 :: .int 0 :: .int 0 :: .ref a2 :: .ref a3 :: .ref a17 :: .ref a18 :: .ref a19 :: .int 0 :: .ref a20 :: .ref a21 :: .int 0 :: .int 0 :: .ref a22 :: .ref a23 :: .ref a24 :: .ref a25 :: .ref a26 :: .int (-1) :: .ref a27 :: .ref a28 :: .ref a29 :: .ref a30 :: .ref a31 :: .ref a32 :: .ref a33 :: []), zi G a1 49 (fun _ => 0), zi G a2 147 (fun _ => 0), zz G a3 3 (fun _ => 0)] H locs) ∧ lv_has ls 3 [(2, .int (nI i)), (0, .ref a0), (1, .int 1)]) (Nat.le_of_ble_eq_true rfl) (Nat.le_of_ble_eq_true rfl) ⟨B, hl⟩ (fun i10 H locs ls hi ih hI => ?_) (fun H locs ls hI => ?_)
        · obtain ⟨B, hl⟩ := hI
          have hl : lv_has ls 3 [(2, .int (nI i10)), (0, .ref a0), (1, .int 1)] := hl
          have hii : (nI i10).toInt = ((i10 : Nat) : Int) := nI_toInt (by omega)
          refine lv_iload_n E.x E.b dX12_hold_13 rfl (lv_at hl 0 rfl) ?_
          refine lv_bipush (v := 49) E.x E.b dX12_hold_14 (by decide) ?_
          refine lv_icmp_ge (tgt := 42) E.x E.b dX12_hold_16 (by decide) (fun c_11 => ?_) (fun c_11 => ?_)
          · have c_11f : 49 ≤ (nI i10).toInt := zi_le c_11
            exfalso; omega
          · have c_11f : (nI i10).toInt < 49 := zi_nle c_11
            refine lv_aload_n E.x E.b dX12_hold_19 rfl (lv_at hl 1 rfl) ?_
            refine z_get E B z_inX12 (ci := 10) rfl 33 (by decide) t_1225 0 rfl rfl dX12_hold_20 ?_
            refine lv_bipush (v := 49) E.x E.b dX12_hold_23 (by decide) ?_
            refine lv_iload_n E.x E.b dX12_hold_25 rfl (lv_at hl 2 rfl) ?_
            refine lv_imul E.x E.b dX12_hold_26 (z_topi 49 (by decide +kernel) ?_)
            refine lv_iload_n E.x E.b dX12_hold_27 rfl (lv_at hl 0 rfl) ?_
            refine lv_iadd E.x E.b dX12_hold_28 (z_topi (nI (49 + i10)) (nI_add 49 (i10)) ?_)
            refine lv_aload_n E.x E.b dX12_hold_29 rfl (lv_at hl 1 rfl) ?_
            refine z_get E B z_inX12 (ci := 10) rfl 28 (by decide) t_1220 0 rfl rfl dX12_hold_30 ?_
            refine lv_iload_n E.x E.b dX12_hold_33 rfl (lv_at hl 0 rfl) ?_
            refine z_iald E B 1 rfl (vp_in_nI (by omega) (by decide)) dX12_hold_34 (z_topi 0 rfl ?_)
            refine z_iast0 E B 2 rfl (vp_in_nI (by omega) (by decide)) dX12_hold_35 (fun H locs B => ?_)
            have B : zB G A s.heap [zo a0 10 (.int 0 :: .ref a4 :: .int 0 :: .ref a5 :: .int 0 :: .ref a6 :: .ref a7 :: .ref a8 :: .ref a9 :: .ref a10 :: .int 0 :: .int 0 :: .int 0 :: .int 0 :: .int 0 :: .int 0 :: .int (-1) :: .int 0 :: .ref a11 :: .int 0 :: .int 0 :: .ref a12 :: .int 0 :: .int 0 :: .ref a13 :: .int 0 :: .int 0 :: .ref a14 :: .ref a1 :: .ref a15 :: .ref a16 :: .int 0 :: .int 0 :: .ref a2 :: .ref a3 :: .ref a17 :: .ref a18 :: .ref a19 :: .int 0 :: .ref a20 :: .ref a21 :: .int 0 :: .int 0 :: .ref a22 :: .ref a23 :: .ref a24 :: .ref a25 :: .ref a26 :: .int (-1) :: .ref a27 :: .ref a28 :: .ref a29 :: .ref a30 :: .ref a31 :: .ref a32 :: .ref a33 :: []), zi G a1 49 (fun _ => 0), zi G a2 147 (fun _ => 0), zz G a3 3 (fun _ => 0)] _ _ := B
            refine lv_iinc (v := (nI (i10 + 1))) (lv' := [(2, .int (nI (i10 + 1))), (0, .ref a0), (1, .int 1)]) E.x E.b dX12_hold_36 hl (k := 0) rfl (nI_1 _) (by decide) rfl (fun ls hl => ?_)
            refine lv_goto (tgt := 13) E.x E.b dX12_hold_39 (by decide) ?_
            exact ih _ _ _ ⟨B, lv_sub hl [0, 1, 2] rfl⟩
        · obtain ⟨B, hl⟩ := hI
          have hl : lv_has ls 3 [(2, .int 49), (0, .ref a0), (1, .int 1)] := hl
          refine lv_iload_n E.x E.b dX12_hold_13 rfl (lv_at hl 0 rfl) ?_
          refine lv_bipush (v := 49) E.x E.b dX12_hold_14 (by decide) ?_
          refine lv_icmp_ge (tgt := 42) E.x E.b dX12_hold_16 (by decide) (fun _ => ?_) (fun c => absurd (by decide +kernel) c)
          refine lv_aload_n E.x E.b dX12_hold_42 rfl (lv_at hl 1 rfl) ?_
          refine z_get E B z_inX12 (ci := 10) rfl 34 (by decide) t_1226 0 rfl rfl dX12_hold_43 ?_
          refine lv_iload_n E.x E.b dX12_hold_46 rfl (lv_at hl 2 rfl) ?_
          refine lv_iconst (v := 1) E.x E.b dX12_hold_47 (by decide) ?_
          refine z_zast E B 3 rfl (show ¬ ((1 : Int32) < 0 ∨ 3 ≤ (1 : Int32).toNatClampNeg) by decide +kernel) dX12_hold_48 (fun H locs B => ?_)
          obtain ⟨g_12, B⟩ : ∃ g_12 : Nat → Int32, zB G A s.heap [zo a0 10 (.int 0 :: .ref a4 :: .int 0 :: .ref a5 :: .int 0 :: .ref a6 :: .ref a7 :: .ref a8 :: .ref a9 :: .ref a10 :: .int 0 :: .int 0 :: .int 0 :: .int 0 :: .int 0 :: .int 0 :: .int (-1) :: .int 0 :: .ref a11 :: .int 0 :: .int 0 :: .ref a12 :: .int 0 :: .int 0 :: .ref a13 :: .int 0 :: .int 0 :: .ref a14 :: .ref a1 :: .ref a15 :: .ref a16 :: .int 0 :: .int 0 :: .ref a2 :: .ref a3 :: .ref a17 :: .ref a18 :: .ref a19 :: .int 0 :: .ref a20 :: .ref a21 :: .int 0 :: .int 0 :: .ref a22 :: .ref a23 :: .ref a24 :: .ref a25 :: .ref a26 :: .int (-1) :: .ref a27 :: .ref a28 :: .ref a29 :: .ref a30 :: .ref a31 :: .ref a32 :: .ref a33 :: []), zi G a1 49 (fun _ => 0), zi G a2 147 (fun _ => 0), zz G a3 3 g_12] _ _ := ⟨_, B⟩
          have B : zB G A s.heap [zo a0 10 (.int 0 :: .ref a4 :: .int 0 :: .ref a5 :: .int 0 :: .ref a6 :: .ref a7 :: .ref a8 :: .ref a9 :: .ref a10 :: .int 0 :: .int 0 :: .int 0 :: .int 0 :: .int 0 :: .int 0 :: .int (-1) :: .int 0 :: .ref a11 :: .int 0 :: .int 0 :: .ref a12 :: .int 0 :: .int 0 :: .ref a13 :: .int 0 :: .int 0 :: .ref a14 :: .ref a1 :: .ref a15 :: .ref a16 :: .int 0 :: .int 0 :: .ref a2 :: .ref a3 :: .ref a17 :: .ref a18 :: .ref a19 :: .int 0 :: .ref a20 :: .ref a21 :: .int 0 :: .int 0 :: .ref a22 :: .ref a23 :: .ref a24 :: .ref a25 :: .ref a26 :: .int (-1) :: .ref a27 :: .ref a28 :: .ref a29 :: .ref a30 :: .ref a31 :: .ref a32 :: .ref a33 :: []), zi G a1 49 (fun _ => 0), zi G a2 147 (fun _ => 0), zz G a3 3 g_12] _ _ := B
          refine lv_iconst (v := 1) E.x E.b dX12_hold_49 (by decide) ?_
          refine W.widen (k := 0) (n := 0) (Nat.le_of_ble_eq_true rfl) (Nat.le_of_ble_eq_true rfl) ?_
          exact z_zret E hr hlocks B (v := 1) rfl (Or.inr (Or.inr (Or.inr (Or.inl ⟨(by first | decide | omega), rfl⟩)))) (fun t ht => z_q B [] (by decide) rfl ht) dX12_hold_50
      · have e_9m : ¬ p0.toInt = 1 := zi_ne e_9
        by_cases e_13 : p0 = 2
        · subst e_13
          refine z_loop 49 (fun _ => 0) (fun _ => 0) (fun i H locs ls => (zB G A s.heap [zo a0 10 (.int 0 :: .ref a4 :: .int 0 :: .ref a5 :: .int 0 :: .ref a6 :: .ref a7 :: .ref a8 :: .ref a9 :: .ref a10 :: .int 0 :: .int 0 :: .int 0 :: .int 0 :: .int 0 :: .int 0 :: .int (-1) :: .int 0 :: .ref a11 :: .int 0 :: .int 0 :: .ref a12 :: .int 0 :: .int 0 :: .ref a13 :: .int 0 :: .int 0 :: .ref a14 :: .ref a1 :: .ref a15 :: .ref a16 :: .int 0 :: .int 0 :: .ref a2 :: .ref a3 :: .ref a17 :: .ref a18 :: .ref a19 :: .int 0 :: .ref a20 :: .ref a21 :: .int 0 :: .int 0 :: .ref a22 :: .ref a23 :: .ref a24 :: .ref a25 :: .ref a26 :: .int (-1) :: .ref a27 :: .ref a28 :: .ref a29 :: .ref a30 :: .ref a31 :: .ref a32 :: .ref a33 :: []), zi G a1 49 (fun _ => 0), zi G a2 147 (fun _ => 0), zz G a3 3 (fun _ => 0)] H locs) ∧ lv_has ls 3 [(2, .int (nI i)), (0, .ref a0), (1, .int 2)]) (Nat.le_of_ble_eq_true rfl) (Nat.le_of_ble_eq_true rfl) ⟨B, hl⟩ (fun i14 H locs ls hi ih hI => ?_) (fun H locs ls hI => ?_)
          · obtain ⟨B, hl⟩ := hI
            have hl : lv_has ls 3 [(2, .int (nI i14)), (0, .ref a0), (1, .int 2)] := hl
            have hii : (nI i14).toInt = ((i14 : Nat) : Int) := nI_toInt (by omega)
            refine lv_iload_n E.x E.b dX12_hold_13 rfl (lv_at hl 0 rfl) ?_
            refine lv_bipush (v := 49) E.x E.b dX12_hold_14 (by decide) ?_
            refine lv_icmp_ge (tgt := 42) E.x E.b dX12_hold_16 (by decide) (fun c_15 => ?_) (fun c_15 => ?_)
            · have c_15f : 49 ≤ (nI i14).toInt := zi_le c_15
              exfalso; omega
            · have c_15f : (nI i14).toInt < 49 := zi_nle c_15
              refine lv_aload_n E.x E.b dX12_hold_19 rfl (lv_at hl 1 rfl) ?_
              refine z_get E B z_inX12 (ci := 10) rfl 33 (by decide) t_1225 0 rfl rfl dX12_hold_20 ?_
              refine lv_bipush (v := 49) E.x E.b dX12_hold_23 (by decide) ?_
              refine lv_iload_n E.x E.b dX12_hold_25 rfl (lv_at hl 2 rfl) ?_
              refine lv_imul E.x E.b dX12_hold_26 (z_topi 98 (by decide +kernel) ?_)
              refine lv_iload_n E.x E.b dX12_hold_27 rfl (lv_at hl 0 rfl) ?_
              refine lv_iadd E.x E.b dX12_hold_28 (z_topi (nI (98 + i14)) (nI_add 98 (i14)) ?_)
              refine lv_aload_n E.x E.b dX12_hold_29 rfl (lv_at hl 1 rfl) ?_
              refine z_get E B z_inX12 (ci := 10) rfl 28 (by decide) t_1220 0 rfl rfl dX12_hold_30 ?_
              refine lv_iload_n E.x E.b dX12_hold_33 rfl (lv_at hl 0 rfl) ?_
              refine z_iald E B 1 rfl (vp_in_nI (by omega) (by decide)) dX12_hold_34 (z_topi 0 rfl ?_)
              refine z_iast0 E B 2 rfl (vp_in_nI (by omega) (by decide)) dX12_hold_35 (fun H locs B => ?_)
              have B : zB G A s.heap [zo a0 10 (.int 0 :: .ref a4 :: .int 0 :: .ref a5 :: .int 0 :: .ref a6 :: .ref a7 :: .ref a8 :: .ref a9 :: .ref a10 :: .int 0 :: .int 0 :: .int 0 :: .int 0 :: .int 0 :: .int 0 :: .int (-1) :: .int 0 :: .ref a11 :: .int 0 :: .int 0 :: .ref a12 :: .int 0 :: .int 0 :: .ref a13 :: .int 0 :: .int 0 :: .ref a14 :: .ref a1 :: .ref a15 :: .ref a16 :: .int 0 :: .int 0 :: .ref a2 :: .ref a3 :: .ref a17 :: .ref a18 :: .ref a19 :: .int 0 :: .ref a20 :: .ref a21 :: .int 0 :: .int 0 :: .ref a22 :: .ref a23 :: .ref a24 :: .ref a25 :: .ref a26 :: .int (-1) :: .ref a27 :: .ref a28 :: .ref a29 :: .ref a30 :: .ref a31 :: .ref a32 :: .ref a33 :: []), zi G a1 49 (fun _ => 0), zi G a2 147 (fun _ => 0), zz G a3 3 (fun _ => 0)] _ _ := B
              refine lv_iinc (v := (nI (i14 + 1))) (lv' := [(2, .int (nI (i14 + 1))), (0, .ref a0), (1, .int 2)]) E.x E.b dX12_hold_36 hl (k := 0) rfl (nI_1 _) (by decide) rfl (fun ls hl => ?_)
              refine lv_goto (tgt := 13) E.x E.b dX12_hold_39 (by decide) ?_
              exact ih _ _ _ ⟨B, lv_sub hl [0, 1, 2] rfl⟩
          · obtain ⟨B, hl⟩ := hI
            have hl : lv_has ls 3 [(2, .int 49), (0, .ref a0), (1, .int 2)] := hl
            refine lv_iload_n E.x E.b dX12_hold_13 rfl (lv_at hl 0 rfl) ?_
            refine lv_bipush (v := 49) E.x E.b dX12_hold_14 (by decide) ?_
            refine lv_icmp_ge (tgt := 42) E.x E.b dX12_hold_16 (by decide) (fun _ => ?_) (fun c => absurd (by decide +kernel) c)
            refine lv_aload_n E.x E.b dX12_hold_42 rfl (lv_at hl 1 rfl) ?_
            refine z_get E B z_inX12 (ci := 10) rfl 34 (by decide) t_1226 0 rfl rfl dX12_hold_43 ?_
            refine lv_iload_n E.x E.b dX12_hold_46 rfl (lv_at hl 2 rfl) ?_
            refine lv_iconst (v := 1) E.x E.b dX12_hold_47 (by decide) ?_
            refine z_zast E B 3 rfl (show ¬ ((2 : Int32) < 0 ∨ 3 ≤ (2 : Int32).toNatClampNeg) by decide +kernel) dX12_hold_48 (fun H locs B => ?_)
            obtain ⟨g_16, B⟩ : ∃ g_16 : Nat → Int32, zB G A s.heap [zo a0 10 (.int 0 :: .ref a4 :: .int 0 :: .ref a5 :: .int 0 :: .ref a6 :: .ref a7 :: .ref a8 :: .ref a9 :: .ref a10 :: .int 0 :: .int 0 :: .int 0 :: .int 0 :: .int 0 :: .int 0 :: .int (-1) :: .int 0 :: .ref a11 :: .int 0 :: .int 0 :: .ref a12 :: .int 0 :: .int 0 :: .ref a13 :: .int 0 :: .int 0 :: .ref a14 :: .ref a1 :: .ref a15 :: .ref a16 :: .int 0 :: .int 0 :: .ref a2 :: .ref a3 :: .ref a17 :: .ref a18 :: .ref a19 :: .int 0 :: .ref a20 :: .ref a21 :: .int 0 :: .int 0 :: .ref a22 :: .ref a23 :: .ref a24 :: .ref a25 :: .ref a26 :: .int (-1) :: .ref a27 :: .ref a28 :: .ref a29 :: .ref a30 :: .ref a31 :: .ref a32 :: .ref a33 :: []), zi G a1 49 (fun _ => 0), zi G a2 147 (fun _ => 0), zz G a3 3 g_16] _ _ := ⟨_, B⟩
            have B : zB G A s.heap [zo a0 10 (.int 0 :: .ref a4 :: .int 0 :: .ref a5 :: .int 0 :: .ref a6 :: .ref a7 :: .ref a8 :: .ref a9 :: .ref a10 :: .int 0 :: .int 0 :: .int 0 :: .int 0 :: .int 0 :: .int 0 :: .int (-1) :: .int 0 :: .ref a11 :: .int 0 :: .int 0 :: .ref a12 :: .int 0 :: .int 0 :: .ref a13 :: .int 0 :: .int 0 :: .ref a14 :: .ref a1 :: .ref a15 :: .ref a16 :: .int 0 :: .int 0 :: .ref a2 :: .ref a3 :: .ref a17 :: .ref a18 :: .ref a19 :: .int 0 :: .ref a20 :: .ref a21 :: .int 0 :: .int 0 :: .ref a22 :: .ref a23 :: .ref a24 :: .ref a25 :: .ref a26 :: .int (-1) :: .ref a27 :: .ref a28 :: .ref a29 :: .ref a30 :: .ref a31 :: .ref a32 :: .ref a33 :: []), zi G a1 49 (fun _ => 0), zi G a2 147 (fun _ => 0), zz G a3 3 g_16] _ _ := B
            refine lv_iconst (v := 1) E.x E.b dX12_hold_49 (by decide) ?_
            refine W.widen (k := 0) (n := 0) (Nat.le_of_ble_eq_true rfl) (Nat.le_of_ble_eq_true rfl) ?_
            exact z_zret E hr hlocks B (v := 1) rfl (Or.inr (Or.inr (Or.inr (Or.inr (⟨(by first | decide | omega), rfl⟩))))) (fun t ht => z_q B [] (by decide) rfl ht) dX12_hold_50
        · exfalso
          have e_13n := zi_ne e_13
          have e_13m : ¬ p0.toInt = 2 := e_13n
          omega
